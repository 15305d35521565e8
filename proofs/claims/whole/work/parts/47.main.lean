/-! PRINTED BY wip/whole/gen.py -/
def aL_main : StA := (RL, code, 7, some .boolean, ⟨RL, "law", "([I)Z"⟩, 44, [])
theorem nwL_8 : NW RL 8 10 10 [.null, .null, .null, .null, .null, .null, .null, .null, .null, .int 0] := ⟨_, TX11, tyX11, rfl, tyX11_ok, tblG_of 173 (by decide +kernel) (by decide +kernel), tblG_of 174 (by decide +kernel) (by decide +kernel), tblG_of 144 (by decide +kernel) (by decide +kernel), (fun j hj => by match j, hj with | 0, _ => rfl | 1, _ => rfl | 2, _ => rfl | 3, _ => rfl | 4, _ => rfl | 5, _ => rfl | 6, _ => rfl | 7, _ => rfl | 8, _ => rfl | 9, _ => rfl), rfl⟩
theorem miL_131 : MI RL 131 aX11_init 0 := ⟨tblG_of 175 (by decide +kernel) (by decide +kernel), tblG_of 176 (by decide +kernel) (by decide +kernel), tblG_of 144 (by decide +kernel) (by decide +kernel), tblG_of 177 (by decide +kernel) (by decide +kernel), rfl, ⟨by decide, by decide⟩, by decide +kernel, by decide, rfl, rfl⟩
theorem nwL_132 : NW RL 132 11 27 [.int 0, .null, .null, .null, .null, .null, .int 0, .int 0, .null, .int 0, .int 0, .int 0, .int 0, .int 0, .int 0, .null, .int 0, .null, .int 0, .int 0, .int 0, .null, .null, .int 0, .int 0, .null, .null] := ⟨_, TX12, tyX12, rfl, tyX12_ok, tblG_of 1659 (by decide +kernel) (by decide +kernel), tblG_of 1660 (by decide +kernel) (by decide +kernel), tblG_of 157 (by decide +kernel) (by decide +kernel), (fun j hj => by match j, hj with | 0, _ => rfl | 1, _ => rfl | 2, _ => rfl | 3, _ => rfl | 4, _ => rfl | 5, _ => rfl | 6, _ => rfl | 7, _ => rfl | 8, _ => rfl | 9, _ => rfl | 10, _ => rfl | 11, _ => rfl | 12, _ => rfl | 13, _ => rfl | 14, _ => rfl | 15, _ => rfl | 16, _ => rfl | 17, _ => rfl | 18, _ => rfl | 19, _ => rfl | 20, _ => rfl | 21, _ => rfl | 22, _ => rfl | 23, _ => rfl | 24, _ => rfl | 25, _ => rfl | 26, _ => rfl | j + 27, h => exact absurd h (by omega)), rfl⟩
theorem miL_134 : MI RL 134 aX12_init 0 := ⟨tblG_of 1661 (by decide +kernel) (by decide +kernel), tblG_of 1662 (by decide +kernel) (by decide +kernel), tblG_of 157 (by decide +kernel) (by decide +kernel), tblG_of 1663 (by decide +kernel) (by decide +kernel), rfl, ⟨by decide, by decide⟩, by decide +kernel, by decide, rfl, rfl⟩
theorem mvL_135 : MV RL 135 aX11_feed 5 := ⟨tblG_of 545 (by decide +kernel) (by decide +kernel), tblG_of 546 (by decide +kernel) (by decide +kernel), tblG_of 547 (by decide +kernel) (by decide +kernel), tblG_of 144 (by decide +kernel) (by decide +kernel), tblG_of 548 (by decide +kernel) (by decide +kernel), rfl, ⟨by decide, by decide⟩, by decide +kernel, by decide⟩
theorem mvL_139 : MV RL 139 aX12_feed 5 := ⟨tblG_of 1759 (by decide +kernel) (by decide +kernel), tblG_of 1760 (by decide +kernel) (by decide +kernel), tblG_of 1761 (by decide +kernel) (by decide +kernel), tblG_of 157 (by decide +kernel) (by decide +kernel), tblG_of 1762 (by decide +kernel) (by decide +kernel), rfl, ⟨by decide, by decide⟩, by decide +kernel, by decide⟩
theorem mvL_140 : MV RL 140 aX11_end 1 := ⟨tblG_of 557 (by decide +kernel) (by decide +kernel), tblG_of 558 (by decide +kernel) (by decide +kernel), tblG_of 559 (by decide +kernel) (by decide +kernel), tblG_of 144 (by decide +kernel) (by decide +kernel), tblG_of 560 (by decide +kernel) (by decide +kernel), rfl, ⟨by decide, by decide⟩, by decide +kernel, by decide⟩
theorem mvL_144 : MV RL 144 aX12_end 1 := ⟨tblG_of 1763 (by decide +kernel) (by decide +kernel), tblG_of 1764 (by decide +kernel) (by decide +kernel), tblG_of 1765 (by decide +kernel) (by decide +kernel), tblG_of 157 (by decide +kernel) (by decide +kernel), tblG_of 1766 (by decide +kernel) (by decide +kernel), rfl, ⟨by decide, by decide⟩, by decide +kernel, by decide⟩
theorem msL_145 : MSH RL 145 aL_shop 2 := ⟨tblG_of 795 (by decide +kernel) (by decide +kernel), tblG_of 796 (by decide +kernel) (by decide +kernel), tblG_of 143 (by decide +kernel) (by decide +kernel), tblG_of 797 (by decide +kernel) (by decide +kernel), ⟨_, _, rfl⟩, ⟨by decide, by decide⟩, by decide +kernel, by decide⟩
theorem mvL_150 : MV RL 150 aX12_shop 0 := ⟨tblG_of 1771 (by decide +kernel) (by decide +kernel), tblG_of 1772 (by decide +kernel) (by decide +kernel), tblG_of 1773 (by decide +kernel) (by decide +kernel), tblG_of 157 (by decide +kernel) (by decide +kernel), tblG_of 1774 (by decide +kernel) (by decide +kernel), rfl, ⟨by decide, by decide⟩, by decide +kernel, by decide⟩
theorem mvL_151 : MV RL 151 aX12_thrown 0 := ⟨tblG_of 1655 (by decide +kernel) (by decide +kernel), tblG_of 1656 (by decide +kernel) (by decide +kernel), tblG_of 1657 (by decide +kernel) (by decide +kernel), tblG_of 157 (by decide +kernel) (by decide +kernel), tblG_of 1658 (by decide +kernel) (by decide +kernel), rfl, ⟨by decide, by decide⟩, by decide +kernel, by decide⟩
theorem msL_154 : MSH RL 154 aL_law 2 := ⟨tblG_of 1140 (by decide +kernel) (by decide +kernel), tblG_of 1141 (by decide +kernel) (by decide +kernel), tblG_of 143 (by decide +kernel) (by decide +kernel), tblG_of 1142 (by decide +kernel) (by decide +kernel), ⟨_, _, rfl⟩, ⟨by decide, by decide⟩, by decide +kernel, by decide⟩
theorem mvL_156 : MV RL 156 aX12_law 0 := ⟨tblG_of 1953 (by decide +kernel) (by decide +kernel), tblG_of 1954 (by decide +kernel) (by decide +kernel), tblG_of 1955 (by decide +kernel) (by decide +kernel), tblG_of 157 (by decide +kernel) (by decide +kernel), tblG_of 1956 (by decide +kernel) (by decide +kernel), rfl, ⟨by decide, by decide⟩, by decide +kernel, by decide⟩
theorem mvL_157 : MV RL 157 aX11_fault 0 := ⟨tblG_of 565 (by decide +kernel) (by decide +kernel), tblG_of 566 (by decide +kernel) (by decide +kernel), tblG_of 567 (by decide +kernel) (by decide +kernel), tblG_of 144 (by decide +kernel) (by decide +kernel), tblG_of 568 (by decide +kernel) (by decide +kernel), rfl, ⟨by decide, by decide⟩, by decide +kernel, by decide⟩
theorem mvL_160 : MV RL 160 aX12_fault 0 := ⟨tblG_of 1767 (by decide +kernel) (by decide +kernel), tblG_of 1768 (by decide +kernel) (by decide +kernel), tblG_of 1769 (by decide +kernel) (by decide +kernel), tblG_of 157 (by decide +kernel) (by decide +kernel), tblG_of 1770 (by decide +kernel) (by decide +kernel), rfl, ⟨by decide, by decide⟩, by decide +kernel, by decide⟩
theorem msL_161 : MSH RL 161 aL_part 4 := ⟨tblG_of 1169 (by decide +kernel) (by decide +kernel), tblG_of 1170 (by decide +kernel) (by decide +kernel), tblG_of 143 (by decide +kernel) (by decide +kernel), tblG_of 1171 (by decide +kernel) (by decide +kernel), ⟨_, _, rfl⟩, ⟨by decide, by decide⟩, by decide +kernel, by decide⟩
theorem mvL_164 : MV RL 164 aX12_part 2 := ⟨tblG_of 1957 (by decide +kernel) (by decide +kernel), tblG_of 1958 (by decide +kernel) (by decide +kernel), tblG_of 1959 (by decide +kernel) (by decide +kernel), tblG_of 157 (by decide +kernel) (by decide +kernel), tblG_of 1960 (by decide +kernel) (by decide +kernel), rfl, ⟨by decide, by decide⟩, by decide +kernel, by decide⟩
theorem msL_165 : MSH RL 165 aL_tool 4 := ⟨tblG_of 1226 (by decide +kernel) (by decide +kernel), tblG_of 1227 (by decide +kernel) (by decide +kernel), tblG_of 143 (by decide +kernel) (by decide +kernel), tblG_of 1228 (by decide +kernel) (by decide +kernel), ⟨_, _, rfl⟩, ⟨by decide, by decide⟩, by decide +kernel, by decide⟩
theorem mvL_167 : MV RL 167 aX12_tool 2 := ⟨tblG_of 1977 (by decide +kernel) (by decide +kernel), tblG_of 1978 (by decide +kernel) (by decide +kernel), tblG_of 1979 (by decide +kernel) (by decide +kernel), tblG_of 157 (by decide +kernel) (by decide +kernel), tblG_of 1980 (by decide +kernel) (by decide +kernel), rfl, ⟨by decide, by decide⟩, by decide +kernel, by decide⟩
theorem msL_168 : MSH RL 168 aL_master 4 := ⟨tblG_of 1240 (by decide +kernel) (by decide +kernel), tblG_of 1241 (by decide +kernel) (by decide +kernel), tblG_of 143 (by decide +kernel) (by decide +kernel), tblG_of 1242 (by decide +kernel) (by decide +kernel), ⟨_, _, rfl⟩, ⟨by decide, by decide⟩, by decide +kernel, by decide⟩
theorem mvL_171 : MV RL 171 aX12_master 2 := ⟨tblG_of 1989 (by decide +kernel) (by decide +kernel), tblG_of 1990 (by decide +kernel) (by decide +kernel), tblG_of 1991 (by decide +kernel) (by decide +kernel), tblG_of 157 (by decide +kernel) (by decide +kernel), tblG_of 1992 (by decide +kernel) (by decide +kernel), rfl, ⟨by decide, by decide⟩, by decide +kernel, by decide⟩
theorem msL_172 : MSH RL 172 aL_rule 4 := ⟨tblG_of 1252 (by decide +kernel) (by decide +kernel), tblG_of 1253 (by decide +kernel) (by decide +kernel), tblG_of 143 (by decide +kernel) (by decide +kernel), tblG_of 1254 (by decide +kernel) (by decide +kernel), ⟨_, _, rfl⟩, ⟨by decide, by decide⟩, by decide +kernel, by decide⟩
theorem mvL_174 : MV RL 174 aX12_rule 2 := ⟨tblG_of 2009 (by decide +kernel) (by decide +kernel), tblG_of 2010 (by decide +kernel) (by decide +kernel), tblG_of 2011 (by decide +kernel) (by decide +kernel), tblG_of 157 (by decide +kernel) (by decide +kernel), tblG_of 2012 (by decide +kernel) (by decide +kernel), rfl, ⟨by decide, by decide⟩, by decide +kernel, by decide⟩
theorem msL_175 : MSH RL 175 aL_deed 6 := ⟨tblG_of 1260 (by decide +kernel) (by decide +kernel), tblG_of 1261 (by decide +kernel) (by decide +kernel), tblG_of 143 (by decide +kernel) (by decide +kernel), tblG_of 1262 (by decide +kernel) (by decide +kernel), ⟨_, _, rfl⟩, ⟨by decide, by decide⟩, by decide +kernel, by decide⟩
theorem mvL_178 : MV RL 178 aX12_deed 4 := ⟨tblG_of 2043 (by decide +kernel) (by decide +kernel), tblG_of 2044 (by decide +kernel) (by decide +kernel), tblG_of 2045 (by decide +kernel) (by decide +kernel), tblG_of 157 (by decide +kernel) (by decide +kernel), tblG_of 2046 (by decide +kernel) (by decide +kernel), rfl, ⟨by decide, by decide⟩, by decide +kernel, by decide⟩
theorem msL_179 : MSH RL 179 aL_swap 5 := ⟨tblG_of 1336 (by decide +kernel) (by decide +kernel), tblG_of 1337 (by decide +kernel) (by decide +kernel), tblG_of 143 (by decide +kernel) (by decide +kernel), tblG_of 1338 (by decide +kernel) (by decide +kernel), ⟨_, _, rfl⟩, ⟨by decide, by decide⟩, by decide +kernel, by decide⟩
theorem mvL_182 : MV RL 182 aX12_swap 3 := ⟨tblG_of 2078 (by decide +kernel) (by decide +kernel), tblG_of 2079 (by decide +kernel) (by decide +kernel), tblG_of 2080 (by decide +kernel) (by decide +kernel), tblG_of 157 (by decide +kernel) (by decide +kernel), tblG_of 2081 (by decide +kernel) (by decide +kernel), rfl, ⟨by decide, by decide⟩, by decide +kernel, by decide⟩
theorem msL_183 : MSH RL 183 aL_serve 4 := ⟨tblG_of 1364 (by decide +kernel) (by decide +kernel), tblG_of 1365 (by decide +kernel) (by decide +kernel), tblG_of 143 (by decide +kernel) (by decide +kernel), tblG_of 1366 (by decide +kernel) (by decide +kernel), ⟨_, _, rfl⟩, ⟨by decide, by decide⟩, by decide +kernel, by decide⟩
theorem mvL_185 : MV RL 185 aX12_serve 2 := ⟨tblG_of 2095 (by decide +kernel) (by decide +kernel), tblG_of 2096 (by decide +kernel) (by decide +kernel), tblG_of 2097 (by decide +kernel) (by decide +kernel), tblG_of 157 (by decide +kernel) (by decide +kernel), tblG_of 2098 (by decide +kernel) (by decide +kernel), rfl, ⟨by decide, by decide⟩, by decide +kernel, by decide⟩
theorem msL_186 : MSH RL 186 aL_grind 3 := ⟨tblG_of 1376 (by decide +kernel) (by decide +kernel), tblG_of 1377 (by decide +kernel) (by decide +kernel), tblG_of 143 (by decide +kernel) (by decide +kernel), tblG_of 1378 (by decide +kernel) (by decide +kernel), ⟨_, _, rfl⟩, ⟨by decide, by decide⟩, by decide +kernel, by decide⟩
theorem mvL_189 : MV RL 189 aX12_grind 1 := ⟨tblG_of 2099 (by decide +kernel) (by decide +kernel), tblG_of 2100 (by decide +kernel) (by decide +kernel), tblG_of 2101 (by decide +kernel) (by decide +kernel), tblG_of 157 (by decide +kernel) (by decide +kernel), tblG_of 2102 (by decide +kernel) (by decide +kernel), rfl, ⟨by decide, by decide⟩, by decide +kernel, by decide⟩
theorem msL_190 : MSH RL 190 aL_nail 4 := ⟨tblG_of 1389 (by decide +kernel) (by decide +kernel), tblG_of 1390 (by decide +kernel) (by decide +kernel), tblG_of 143 (by decide +kernel) (by decide +kernel), tblG_of 1391 (by decide +kernel) (by decide +kernel), ⟨_, _, rfl⟩, ⟨by decide, by decide⟩, by decide +kernel, by decide⟩
theorem mvL_192 : MV RL 192 aX12_nail 2 := ⟨tblG_of 2103 (by decide +kernel) (by decide +kernel), tblG_of 2104 (by decide +kernel) (by decide +kernel), tblG_of 2105 (by decide +kernel) (by decide +kernel), tblG_of 157 (by decide +kernel) (by decide +kernel), tblG_of 2106 (by decide +kernel) (by decide +kernel), rfl, ⟨by decide, by decide⟩, by decide +kernel, by decide⟩
theorem msL_193 : MSH RL 193 aL_days 3 := ⟨tblG_of 1397 (by decide +kernel) (by decide +kernel), tblG_of 1398 (by decide +kernel) (by decide +kernel), tblG_of 143 (by decide +kernel) (by decide +kernel), tblG_of 1399 (by decide +kernel) (by decide +kernel), ⟨_, _, rfl⟩, ⟨by decide, by decide⟩, by decide +kernel, by decide⟩
theorem mvL_195 : MV RL 195 aX12_days 1 := ⟨tblG_of 2107 (by decide +kernel) (by decide +kernel), tblG_of 2108 (by decide +kernel) (by decide +kernel), tblG_of 2109 (by decide +kernel) (by decide +kernel), tblG_of 157 (by decide +kernel) (by decide +kernel), tblG_of 2110 (by decide +kernel) (by decide +kernel), rfl, ⟨by decide, by decide⟩, by decide +kernel, by decide⟩
theorem mvL_196 : MV RL 196 aX11_guilty 0 := ⟨tblG_of 569 (by decide +kernel) (by decide +kernel), tblG_of 570 (by decide +kernel) (by decide +kernel), tblG_of 571 (by decide +kernel) (by decide +kernel), tblG_of 144 (by decide +kernel) (by decide +kernel), tblG_of 572 (by decide +kernel) (by decide +kernel), rfl, ⟨by decide, by decide⟩, by decide +kernel, by decide⟩
theorem mvL_199 : MV RL 199 aX12_guilty 0 := ⟨tblG_of 2128 (by decide +kernel) (by decide +kernel), tblG_of 2129 (by decide +kernel) (by decide +kernel), tblG_of 2130 (by decide +kernel) (by decide +kernel), tblG_of 157 (by decide +kernel) (by decide +kernel), tblG_of 2131 (by decide +kernel) (by decide +kernel), rfl, ⟨by decide, by decide⟩, by decide +kernel, by decide⟩
theorem msL_200 : MSH RL 200 aL_culprits 5 := ⟨tblG_of 1423 (by decide +kernel) (by decide +kernel), tblG_of 1424 (by decide +kernel) (by decide +kernel), tblG_of 143 (by decide +kernel) (by decide +kernel), tblG_of 1425 (by decide +kernel) (by decide +kernel), ⟨_, _, rfl⟩, ⟨by decide, by decide⟩, by decide +kernel, by decide⟩
theorem mvL_202 : MV RL 202 aX12_culprits 3 := ⟨tblG_of 2140 (by decide +kernel) (by decide +kernel), tblG_of 2141 (by decide +kernel) (by decide +kernel), tblG_of 2142 (by decide +kernel) (by decide +kernel), tblG_of 157 (by decide +kernel) (by decide +kernel), tblG_of 2143 (by decide +kernel) (by decide +kernel), rfl, ⟨by decide, by decide⟩, by decide +kernel, by decide⟩
theorem mvL_203 : MV RL 203 aX11_ask 1 := ⟨tblG_of 593 (by decide +kernel) (by decide +kernel), tblG_of 594 (by decide +kernel) (by decide +kernel), tblG_of 595 (by decide +kernel) (by decide +kernel), tblG_of 144 (by decide +kernel) (by decide +kernel), tblG_of 596 (by decide +kernel) (by decide +kernel), rfl, ⟨by decide, by decide⟩, by decide +kernel, by decide⟩
theorem mvL_206 : MV RL 206 aX12_ask 1 := ⟨tblG_of 2144 (by decide +kernel) (by decide +kernel), tblG_of 2145 (by decide +kernel) (by decide +kernel), tblG_of 2146 (by decide +kernel) (by decide +kernel), tblG_of 157 (by decide +kernel) (by decide +kernel), tblG_of 2147 (by decide +kernel) (by decide +kernel), rfl, ⟨by decide, by decide⟩, by decide +kernel, by decide⟩
theorem msL_207 : MSH RL 207 aL_laundered 4 := ⟨tblG_of 1447 (by decide +kernel) (by decide +kernel), tblG_of 1448 (by decide +kernel) (by decide +kernel), tblG_of 143 (by decide +kernel) (by decide +kernel), tblG_of 1449 (by decide +kernel) (by decide +kernel), ⟨_, _, rfl⟩, ⟨by decide, by decide⟩, by decide +kernel, by decide⟩
theorem mvL_209 : MV RL 209 aX12_laundered 2 := ⟨tblG_of 2152 (by decide +kernel) (by decide +kernel), tblG_of 2153 (by decide +kernel) (by decide +kernel), tblG_of 2154 (by decide +kernel) (by decide +kernel), tblG_of 157 (by decide +kernel) (by decide +kernel), tblG_of 2155 (by decide +kernel) (by decide +kernel), rfl, ⟨by decide, by decide⟩, by decide +kernel, by decide⟩
theorem msL_210 : MSH RL 210 aL_guard 3 := ⟨tblG_of 1454 (by decide +kernel) (by decide +kernel), tblG_of 1455 (by decide +kernel) (by decide +kernel), tblG_of 143 (by decide +kernel) (by decide +kernel), tblG_of 1456 (by decide +kernel) (by decide +kernel), ⟨_, _, rfl⟩, ⟨by decide, by decide⟩, by decide +kernel, by decide⟩
theorem mvL_212 : MV RL 212 aX12_guard 1 := ⟨tblG_of 2189 (by decide +kernel) (by decide +kernel), tblG_of 2190 (by decide +kernel) (by decide +kernel), tblG_of 2191 (by decide +kernel) (by decide +kernel), tblG_of 157 (by decide +kernel) (by decide +kernel), tblG_of 2192 (by decide +kernel) (by decide +kernel), rfl, ⟨by decide, by decide⟩, by decide +kernel, by decide⟩
theorem msL_213 : MSH RL 213 aL_word 3 := ⟨tblG_of 1461 (by decide +kernel) (by decide +kernel), tblG_of 1462 (by decide +kernel) (by decide +kernel), tblG_of 143 (by decide +kernel) (by decide +kernel), tblG_of 1463 (by decide +kernel) (by decide +kernel), ⟨_, _, rfl⟩, ⟨by decide, by decide⟩, by decide +kernel, by decide⟩
theorem mvL_215 : MV RL 215 aX12_word 1 := ⟨tblG_of 2193 (by decide +kernel) (by decide +kernel), tblG_of 2194 (by decide +kernel) (by decide +kernel), tblG_of 2195 (by decide +kernel) (by decide +kernel), tblG_of 157 (by decide +kernel) (by decide +kernel), tblG_of 2196 (by decide +kernel) (by decide +kernel), rfl, ⟨by decide, by decide⟩, by decide +kernel, by decide⟩
theorem mvL_216 : MV RL 216 aX11_clean 0 := ⟨tblG_of 609 (by decide +kernel) (by decide +kernel), tblG_of 610 (by decide +kernel) (by decide +kernel), tblG_of 611 (by decide +kernel) (by decide +kernel), tblG_of 144 (by decide +kernel) (by decide +kernel), tblG_of 612 (by decide +kernel) (by decide +kernel), rfl, ⟨by decide, by decide⟩, by decide +kernel, by decide⟩
theorem mvL_219 : MV RL 219 aX12_clean 0 := ⟨tblG_of 2197 (by decide +kernel) (by decide +kernel), tblG_of 2198 (by decide +kernel) (by decide +kernel), tblG_of 2199 (by decide +kernel) (by decide +kernel), tblG_of 157 (by decide +kernel) (by decide +kernel), tblG_of 2200 (by decide +kernel) (by decide +kernel), rfl, ⟨by decide, by decide⟩, by decide +kernel, by decide⟩
theorem msL_220 : MSH RL 220 aL_exchange 5 := ⟨tblG_of 1468 (by decide +kernel) (by decide +kernel), tblG_of 1469 (by decide +kernel) (by decide +kernel), tblG_of 143 (by decide +kernel) (by decide +kernel), tblG_of 1470 (by decide +kernel) (by decide +kernel), ⟨_, _, rfl⟩, ⟨by decide, by decide⟩, by decide +kernel, by decide⟩
theorem mvL_223 : MV RL 223 aX12_exchange 3 := ⟨tblG_of 2201 (by decide +kernel) (by decide +kernel), tblG_of 2202 (by decide +kernel) (by decide +kernel), tblG_of 2203 (by decide +kernel) (by decide +kernel), tblG_of 157 (by decide +kernel) (by decide +kernel), tblG_of 2204 (by decide +kernel) (by decide +kernel), rfl, ⟨by decide, by decide⟩, by decide +kernel, by decide⟩
theorem msL_224 : MSH RL 224 aL_with 3 := ⟨tblG_of 1490 (by decide +kernel) (by decide +kernel), tblG_of 1491 (by decide +kernel) (by decide +kernel), tblG_of 143 (by decide +kernel) (by decide +kernel), tblG_of 1492 (by decide +kernel) (by decide +kernel), ⟨_, _, rfl⟩, ⟨by decide, by decide⟩, by decide +kernel, by decide⟩
theorem mvL_226 : MV RL 226 aX12_with 1 := ⟨tblG_of 2274 (by decide +kernel) (by decide +kernel), tblG_of 2275 (by decide +kernel) (by decide +kernel), tblG_of 2276 (by decide +kernel) (by decide +kernel), tblG_of 157 (by decide +kernel) (by decide +kernel), tblG_of 2277 (by decide +kernel) (by decide +kernel), rfl, ⟨by decide, by decide⟩, by decide +kernel, by decide⟩
theorem msL_227 : MSH RL 227 aL_strokes 4 := ⟨tblG_of 1509 (by decide +kernel) (by decide +kernel), tblG_of 1510 (by decide +kernel) (by decide +kernel), tblG_of 143 (by decide +kernel) (by decide +kernel), tblG_of 1511 (by decide +kernel) (by decide +kernel), ⟨_, _, rfl⟩, ⟨by decide, by decide⟩, by decide +kernel, by decide⟩
theorem mvL_229 : MV RL 229 aX12_strokes 2 := ⟨tblG_of 2282 (by decide +kernel) (by decide +kernel), tblG_of 2283 (by decide +kernel) (by decide +kernel), tblG_of 2284 (by decide +kernel) (by decide +kernel), tblG_of 157 (by decide +kernel) (by decide +kernel), tblG_of 2285 (by decide +kernel) (by decide +kernel), rfl, ⟨by decide, by decide⟩, by decide +kernel, by decide⟩
theorem msL_230 : MSH RL 230 aL_harmed 4 := ⟨tblG_of 1520 (by decide +kernel) (by decide +kernel), tblG_of 1521 (by decide +kernel) (by decide +kernel), tblG_of 143 (by decide +kernel) (by decide +kernel), tblG_of 1522 (by decide +kernel) (by decide +kernel), ⟨_, _, rfl⟩, ⟨by decide, by decide⟩, by decide +kernel, by decide⟩
theorem mvL_232 : MV RL 232 aX12_harmed 2 := ⟨tblG_of 2290 (by decide +kernel) (by decide +kernel), tblG_of 2291 (by decide +kernel) (by decide +kernel), tblG_of 2292 (by decide +kernel) (by decide +kernel), tblG_of 157 (by decide +kernel) (by decide +kernel), tblG_of 2293 (by decide +kernel) (by decide +kernel), rfl, ⟨by decide, by decide⟩, by decide +kernel, by decide⟩
theorem mvL_233 : MV RL 233 aX11_cell 1 := ⟨tblG_of 681 (by decide +kernel) (by decide +kernel), tblG_of 682 (by decide +kernel) (by decide +kernel), tblG_of 683 (by decide +kernel) (by decide +kernel), tblG_of 144 (by decide +kernel) (by decide +kernel), tblG_of 684 (by decide +kernel) (by decide +kernel), rfl, ⟨by decide, by decide⟩, by decide +kernel, by decide⟩
theorem mvL_236 : MV RL 236 aX12_cell 1 := ⟨tblG_of 2209 (by decide +kernel) (by decide +kernel), tblG_of 2210 (by decide +kernel) (by decide +kernel), tblG_of 2211 (by decide +kernel) (by decide +kernel), tblG_of 157 (by decide +kernel) (by decide +kernel), tblG_of 2212 (by decide +kernel) (by decide +kernel), rfl, ⟨by decide, by decide⟩, by decide +kernel, by decide⟩
theorem msL_237 : MSH RL 237 aL_joint 4 := ⟨tblG_of 1527 (by decide +kernel) (by decide +kernel), tblG_of 1528 (by decide +kernel) (by decide +kernel), tblG_of 143 (by decide +kernel) (by decide +kernel), tblG_of 1529 (by decide +kernel) (by decide +kernel), ⟨_, _, rfl⟩, ⟨by decide, by decide⟩, by decide +kernel, by decide⟩
theorem mvL_239 : MV RL 239 aX12_joint 2 := ⟨tblG_of 2229 (by decide +kernel) (by decide +kernel), tblG_of 2230 (by decide +kernel) (by decide +kernel), tblG_of 2231 (by decide +kernel) (by decide +kernel), tblG_of 157 (by decide +kernel) (by decide +kernel), tblG_of 2232 (by decide +kernel) (by decide +kernel), rfl, ⟨by decide, by decide⟩, by decide +kernel, by decide⟩
theorem msL_240 : MSH RL 240 aL_clock 5 := ⟨tblG_of 1538 (by decide +kernel) (by decide +kernel), tblG_of 1539 (by decide +kernel) (by decide +kernel), tblG_of 143 (by decide +kernel) (by decide +kernel), tblG_of 1540 (by decide +kernel) (by decide +kernel), ⟨_, _, rfl⟩, ⟨by decide, by decide⟩, by decide +kernel, by decide⟩
theorem mvL_242 : MV RL 242 aX12_clock 3 := ⟨tblG_of 2237 (by decide +kernel) (by decide +kernel), tblG_of 2238 (by decide +kernel) (by decide +kernel), tblG_of 2239 (by decide +kernel) (by decide +kernel), tblG_of 157 (by decide +kernel) (by decide +kernel), tblG_of 2240 (by decide +kernel) (by decide +kernel), rfl, ⟨by decide, by decide⟩, by decide +kernel, by decide⟩
theorem msL_243 : MSH RL 243 aL_together 3 := ⟨tblG_of 1545 (by decide +kernel) (by decide +kernel), tblG_of 1546 (by decide +kernel) (by decide +kernel), tblG_of 143 (by decide +kernel) (by decide +kernel), tblG_of 1547 (by decide +kernel) (by decide +kernel), ⟨_, _, rfl⟩, ⟨by decide, by decide⟩, by decide +kernel, by decide⟩
theorem mvL_246 : MV RL 246 aX12_together 1 := ⟨tblG_of 2245 (by decide +kernel) (by decide +kernel), tblG_of 2246 (by decide +kernel) (by decide +kernel), tblG_of 2247 (by decide +kernel) (by decide +kernel), tblG_of 157 (by decide +kernel) (by decide +kernel), tblG_of 2248 (by decide +kernel) (by decide +kernel), rfl, ⟨by decide, by decide⟩, by decide +kernel, by decide⟩
theorem mvL_247 : MV RL 247 aX11_heir 0 := ⟨tblG_of 723 (by decide +kernel) (by decide +kernel), tblG_of 724 (by decide +kernel) (by decide +kernel), tblG_of 725 (by decide +kernel) (by decide +kernel), tblG_of 144 (by decide +kernel) (by decide +kernel), tblG_of 726 (by decide +kernel) (by decide +kernel), rfl, ⟨by decide, by decide⟩, by decide +kernel, by decide⟩
theorem mvL_250 : MV RL 250 aX12_heir 0 := ⟨tblG_of 2249 (by decide +kernel) (by decide +kernel), tblG_of 2250 (by decide +kernel) (by decide +kernel), tblG_of 2251 (by decide +kernel) (by decide +kernel), tblG_of 157 (by decide +kernel) (by decide +kernel), tblG_of 2252 (by decide +kernel) (by decide +kernel), rfl, ⟨by decide, by decide⟩, by decide +kernel, by decide⟩
theorem msL_251 : MSH RL 251 aL_jury 4 := ⟨tblG_of 1558 (by decide +kernel) (by decide +kernel), tblG_of 1559 (by decide +kernel) (by decide +kernel), tblG_of 143 (by decide +kernel) (by decide +kernel), tblG_of 1560 (by decide +kernel) (by decide +kernel), ⟨_, _, rfl⟩, ⟨by decide, by decide⟩, by decide +kernel, by decide⟩
theorem mvL_253 : MV RL 253 aX12_jury 2 := ⟨tblG_of 2253 (by decide +kernel) (by decide +kernel), tblG_of 2254 (by decide +kernel) (by decide +kernel), tblG_of 2255 (by decide +kernel) (by decide +kernel), tblG_of 157 (by decide +kernel) (by decide +kernel), tblG_of 2256 (by decide +kernel) (by decide +kernel), rfl, ⟨by decide, by decide⟩, by decide +kernel, by decide⟩
theorem msL_254 : MSH RL 254 aL_alibi 4 := ⟨tblG_of 1565 (by decide +kernel) (by decide +kernel), tblG_of 1566 (by decide +kernel) (by decide +kernel), tblG_of 143 (by decide +kernel) (by decide +kernel), tblG_of 1567 (by decide +kernel) (by decide +kernel), ⟨_, _, rfl⟩, ⟨by decide, by decide⟩, by decide +kernel, by decide⟩
theorem mvL_256 : MV RL 256 aX12_alibi 2 := ⟨tblG_of 2257 (by decide +kernel) (by decide +kernel), tblG_of 2258 (by decide +kernel) (by decide +kernel), tblG_of 2259 (by decide +kernel) (by decide +kernel), tblG_of 157 (by decide +kernel) (by decide +kernel), tblG_of 2260 (by decide +kernel) (by decide +kernel), rfl, ⟨by decide, by decide⟩, by decide +kernel, by decide⟩
theorem mvL_257 : MV RL 257 aX11_worstMaster 0 := ⟨tblG_of 728 (by decide +kernel) (by decide +kernel), tblG_of 729 (by decide +kernel) (by decide +kernel), tblG_of 730 (by decide +kernel) (by decide +kernel), tblG_of 144 (by decide +kernel) (by decide +kernel), tblG_of 731 (by decide +kernel) (by decide +kernel), rfl, ⟨by decide, by decide⟩, by decide +kernel, by decide⟩
theorem mvL_260 : MV RL 260 aX12_worstMaster 0 := ⟨tblG_of 2262 (by decide +kernel) (by decide +kernel), tblG_of 2263 (by decide +kernel) (by decide +kernel), tblG_of 2264 (by decide +kernel) (by decide +kernel), tblG_of 157 (by decide +kernel) (by decide +kernel), tblG_of 2265 (by decide +kernel) (by decide +kernel), rfl, ⟨by decide, by decide⟩, by decide +kernel, by decide⟩
theorem msL_261 : MSH RL 261 aL_pairs 4 := ⟨tblG_of 1575 (by decide +kernel) (by decide +kernel), tblG_of 1576 (by decide +kernel) (by decide +kernel), tblG_of 143 (by decide +kernel) (by decide +kernel), tblG_of 1577 (by decide +kernel) (by decide +kernel), ⟨_, _, rfl⟩, ⟨by decide, by decide⟩, by decide +kernel, by decide⟩
theorem mvL_263 : MV RL 263 aX12_pairs 2 := ⟨tblG_of 2266 (by decide +kernel) (by decide +kernel), tblG_of 2267 (by decide +kernel) (by decide +kernel), tblG_of 2268 (by decide +kernel) (by decide +kernel), tblG_of 157 (by decide +kernel) (by decide +kernel), tblG_of 2269 (by decide +kernel) (by decide +kernel), rfl, ⟨by decide, by decide⟩, by decide +kernel, by decide⟩
theorem msL_264 : MSH RL 264 aL_trial 3 := ⟨tblG_of 1582 (by decide +kernel) (by decide +kernel), tblG_of 1583 (by decide +kernel) (by decide +kernel), tblG_of 143 (by decide +kernel) (by decide +kernel), tblG_of 1584 (by decide +kernel) (by decide +kernel), ⟨_, _, rfl⟩, ⟨by decide, by decide⟩, by decide +kernel, by decide⟩
theorem mvL_266 : MV RL 266 aX12_trial 1 := ⟨tblG_of 2298 (by decide +kernel) (by decide +kernel), tblG_of 2299 (by decide +kernel) (by decide +kernel), tblG_of 2300 (by decide +kernel) (by decide +kernel), tblG_of 157 (by decide +kernel) (by decide +kernel), tblG_of 2301 (by decide +kernel) (by decide +kernel), rfl, ⟨by decide, by decide⟩, by decide +kernel, by decide⟩
theorem msL_267 : MSH RL 267 aL_span 4 := ⟨tblG_of 1596 (by decide +kernel) (by decide +kernel), tblG_of 1597 (by decide +kernel) (by decide +kernel), tblG_of 143 (by decide +kernel) (by decide +kernel), tblG_of 1598 (by decide +kernel) (by decide +kernel), ⟨_, _, rfl⟩, ⟨by decide, by decide⟩, by decide +kernel, by decide⟩
theorem mvL_269 : MV RL 269 aX12_span 2 := ⟨tblG_of 2310 (by decide +kernel) (by decide +kernel), tblG_of 2311 (by decide +kernel) (by decide +kernel), tblG_of 2312 (by decide +kernel) (by decide +kernel), tblG_of 157 (by decide +kernel) (by decide +kernel), tblG_of 2313 (by decide +kernel) (by decide +kernel), rfl, ⟨by decide, by decide⟩, by decide +kernel, by decide⟩
theorem msL_270 : MSH RL 270 aL_after 6 := ⟨tblG_of 1603 (by decide +kernel) (by decide +kernel), tblG_of 1604 (by decide +kernel) (by decide +kernel), tblG_of 143 (by decide +kernel) (by decide +kernel), tblG_of 1605 (by decide +kernel) (by decide +kernel), ⟨_, _, rfl⟩, ⟨by decide, by decide⟩, by decide +kernel, by decide⟩
theorem mvL_272 : MV RL 272 aX12_after_ 4 := ⟨tblG_of 2314 (by decide +kernel) (by decide +kernel), tblG_of 2315 (by decide +kernel) (by decide +kernel), tblG_of 2316 (by decide +kernel) (by decide +kernel), tblG_of 157 (by decide +kernel) (by decide +kernel), tblG_of 2317 (by decide +kernel) (by decide +kernel), rfl, ⟨by decide, by decide⟩, by decide +kernel, by decide⟩
theorem msL_273 : MSH RL 273 aL_worst 5 := ⟨tblG_of 1615 (by decide +kernel) (by decide +kernel), tblG_of 1616 (by decide +kernel) (by decide +kernel), tblG_of 143 (by decide +kernel) (by decide +kernel), tblG_of 1617 (by decide +kernel) (by decide +kernel), ⟨_, _, rfl⟩, ⟨by decide, by decide⟩, by decide +kernel, by decide⟩
theorem mvL_275 : MV RL 275 aX12_worst 3 := ⟨tblG_of 2322 (by decide +kernel) (by decide +kernel), tblG_of 2323 (by decide +kernel) (by decide +kernel), tblG_of 2324 (by decide +kernel) (by decide +kernel), tblG_of 157 (by decide +kernel) (by decide +kernel), tblG_of 2325 (by decide +kernel) (by decide +kernel), rfl, ⟨by decide, by decide⟩, by decide +kernel, by decide⟩
theorem msL_276 : MSH RL 276 aL_sure 3 := ⟨tblG_of 1626 (by decide +kernel) (by decide +kernel), tblG_of 1627 (by decide +kernel) (by decide +kernel), tblG_of 143 (by decide +kernel) (by decide +kernel), tblG_of 1628 (by decide +kernel) (by decide +kernel), ⟨_, _, rfl⟩, ⟨by decide, by decide⟩, by decide +kernel, by decide⟩
theorem mvL_278 : MV RL 278 aX12_sure 1 := ⟨tblG_of 2270 (by decide +kernel) (by decide +kernel), tblG_of 2271 (by decide +kernel) (by decide +kernel), tblG_of 2272 (by decide +kernel) (by decide +kernel), tblG_of 157 (by decide +kernel) (by decide +kernel), tblG_of 2273 (by decide +kernel) (by decide +kernel), rfl, ⟨by decide, by decide⟩, by decide +kernel, by decide⟩
theorem msL_279 : MSH RL 279 aL_truth 4 := ⟨tblG_of 1633 (by decide +kernel) (by decide +kernel), tblG_of 1634 (by decide +kernel) (by decide +kernel), tblG_of 143 (by decide +kernel) (by decide +kernel), tblG_of 1635 (by decide +kernel) (by decide +kernel), ⟨_, _, rfl⟩, ⟨by decide, by decide⟩, by decide +kernel, by decide⟩
theorem mvL_281 : MV RL 281 aX12_truth 2 := ⟨tblG_of 2294 (by decide +kernel) (by decide +kernel), tblG_of 2295 (by decide +kernel) (by decide +kernel), tblG_of 2296 (by decide +kernel) (by decide +kernel), tblG_of 157 (by decide +kernel) (by decide +kernel), tblG_of 2297 (by decide +kernel) (by decide +kernel), rfl, ⟨by decide, by decide⟩, by decide +kernel, by decide⟩
theorem msL_282 : MSH RL 282 aL_log 4 := ⟨tblG_of 1641 (by decide +kernel) (by decide +kernel), tblG_of 1642 (by decide +kernel) (by decide +kernel), tblG_of 143 (by decide +kernel) (by decide +kernel), tblG_of 1643 (by decide +kernel) (by decide +kernel), ⟨_, _, rfl⟩, ⟨by decide, by decide⟩, by decide +kernel, by decide⟩
theorem mvL_284 : MV RL 284 aX12_log 2 := ⟨tblG_of 2326 (by decide +kernel) (by decide +kernel), tblG_of 2327 (by decide +kernel) (by decide +kernel), tblG_of 2328 (by decide +kernel) (by decide +kernel), tblG_of 157 (by decide +kernel) (by decide +kernel), tblG_of 2329 (by decide +kernel) (by decide +kernel), rfl, ⟨by decide, by decide⟩, by decide +kernel, by decide⟩
theorem msL_285 : MSH RL 285 aL_led 3 := ⟨tblG_of 1648 (by decide +kernel) (by decide +kernel), tblG_of 1649 (by decide +kernel) (by decide +kernel), tblG_of 143 (by decide +kernel) (by decide +kernel), tblG_of 1650 (by decide +kernel) (by decide +kernel), ⟨_, _, rfl⟩, ⟨by decide, by decide⟩, by decide +kernel, by decide⟩
theorem mvL_287 : MV RL 287 aX12_led 1 := ⟨tblG_of 2334 (by decide +kernel) (by decide +kernel), tblG_of 2335 (by decide +kernel) (by decide +kernel), tblG_of 2336 (by decide +kernel) (by decide +kernel), tblG_of 157 (by decide +kernel) (by decide +kernel), tblG_of 2337 (by decide +kernel) (by decide +kernel), rfl, ⟨by decide, by decide⟩, by decide +kernel, by decide⟩
theorem mvL_288 : MV RL 288 aX11_seed 1 := ⟨tblG_of 736 (by decide +kernel) (by decide +kernel), tblG_of 737 (by decide +kernel) (by decide +kernel), tblG_of 738 (by decide +kernel) (by decide +kernel), tblG_of 144 (by decide +kernel) (by decide +kernel), tblG_of 739 (by decide +kernel) (by decide +kernel), rfl, ⟨by decide, by decide⟩, by decide +kernel, by decide⟩
theorem mvL_291 : MV RL 291 aX12_seed 1 := ⟨tblG_of 2338 (by decide +kernel) (by decide +kernel), tblG_of 2339 (by decide +kernel) (by decide +kernel), tblG_of 2340 (by decide +kernel) (by decide +kernel), tblG_of 157 (by decide +kernel) (by decide +kernel), tblG_of 2341 (by decide +kernel) (by decide +kernel), rfl, ⟨by decide, by decide⟩, by decide +kernel, by decide⟩
theorem mvL_292 : MV RL 292 aX11_undo 0 := ⟨tblG_of 740 (by decide +kernel) (by decide +kernel), tblG_of 741 (by decide +kernel) (by decide +kernel), tblG_of 742 (by decide +kernel) (by decide +kernel), tblG_of 144 (by decide +kernel) (by decide +kernel), tblG_of 743 (by decide +kernel) (by decide +kernel), rfl, ⟨by decide, by decide⟩, by decide +kernel, by decide⟩
theorem mvL_296 : MV RL 296 aX12_undo 0 := ⟨tblG_of 1755 (by decide +kernel) (by decide +kernel), tblG_of 1756 (by decide +kernel) (by decide +kernel), tblG_of 1757 (by decide +kernel) (by decide +kernel), tblG_of 157 (by decide +kernel) (by decide +kernel), tblG_of 1758 (by decide +kernel) (by decide +kernel), rfl, ⟨by decide, by decide⟩, by decide +kernel, by decide⟩
theorem mvL_297 : MV RL 297 aX11_image 0 := ⟨tblG_of 758 (by decide +kernel) (by decide +kernel), tblG_of 759 (by decide +kernel) (by decide +kernel), tblG_of 760 (by decide +kernel) (by decide +kernel), tblG_of 144 (by decide +kernel) (by decide +kernel), tblG_of 761 (by decide +kernel) (by decide +kernel), rfl, ⟨by decide, by decide⟩, by decide +kernel, by decide⟩
theorem mvL_300 : MV RL 300 aX12_image 0 := ⟨tblG_of 1747 (by decide +kernel) (by decide +kernel), tblG_of 1748 (by decide +kernel) (by decide +kernel), tblG_of 1749 (by decide +kernel) (by decide +kernel), tblG_of 157 (by decide +kernel) (by decide +kernel), tblG_of 1750 (by decide +kernel) (by decide +kernel), rfl, ⟨by decide, by decide⟩, by decide +kernel, by decide⟩
theorem mvL_301 : MV RL 301 aX11_back 0 := ⟨tblG_of 770 (by decide +kernel) (by decide +kernel), tblG_of 771 (by decide +kernel) (by decide +kernel), tblG_of 772 (by decide +kernel) (by decide +kernel), tblG_of 144 (by decide +kernel) (by decide +kernel), tblG_of 773 (by decide +kernel) (by decide +kernel), rfl, ⟨by decide, by decide⟩, by decide +kernel, by decide⟩
theorem mvL_304 : MV RL 304 aX12_back 0 := ⟨tblG_of 1751 (by decide +kernel) (by decide +kernel), tblG_of 1752 (by decide +kernel) (by decide +kernel), tblG_of 1753 (by decide +kernel) (by decide +kernel), tblG_of 157 (by decide +kernel) (by decide +kernel), tblG_of 1754 (by decide +kernel) (by decide +kernel), rfl, ⟨by decide, by decide⟩, by decide +kernel, by decide⟩
theorem mvL_305 : MV RL 305 aX11_count 1 := ⟨tblG_of 782 (by decide +kernel) (by decide +kernel), tblG_of 783 (by decide +kernel) (by decide +kernel), tblG_of 784 (by decide +kernel) (by decide +kernel), tblG_of 144 (by decide +kernel) (by decide +kernel), tblG_of 785 (by decide +kernel) (by decide +kernel), rfl, ⟨by decide, by decide⟩, by decide +kernel, by decide⟩
theorem mvL_308 : MV RL 308 aX12_count 1 := ⟨tblG_of 2342 (by decide +kernel) (by decide +kernel), tblG_of 2343 (by decide +kernel) (by decide +kernel), tblG_of 2344 (by decide +kernel) (by decide +kernel), tblG_of 157 (by decide +kernel) (by decide +kernel), tblG_of 2345 (by decide +kernel) (by decide +kernel), rfl, ⟨by decide, by decide⟩, by decide +kernel, by decide⟩
noncomputable def mL_main_c0 (n0 : Nat) (xs : Nat → Int32) (v1 : Nat) (v2 : Nat) (x : Int32) : MM (Int32 ⊕ (Unit ⊕ Unit)) :=
  mbnd (sld n0 xs (x + 1)) fun (v8 : Int32) =>
  mbnd (sld n0 xs (x + 2)) fun (v9 : Int32) =>
  mbnd (sld n0 xs (x + 3)) fun (v10 : Int32) =>
  mbnd (sld n0 xs (x + 4)) fun (v11 : Int32) =>
  mbnd (sld n0 xs (x + 5)) fun (v12 : Int32) =>
  mbnd (mX11_feed v1 v8 v9 v10 v11 v12) fun (v13 : Int32) =>
  mbnd (sld n0 xs (x + 1)) fun (v14 : Int32) =>
  mbnd (sld n0 xs (x + 2)) fun (v15 : Int32) =>
  mbnd (sld n0 xs (x + 3)) fun (v16 : Int32) =>
  mbnd (sld n0 xs (x + 4)) fun (v17 : Int32) =>
  mbnd (sld n0 xs (x + 5)) fun (v18 : Int32) =>
  mbnd (mX12_feed v2 v14 v15 v16 v17 v18) fun (v19 : Int32) =>
  if v13 = v19 then (
    mret (.inl (x + 6))
  ) else (
    mret (.inr (.inr ()))
  )
noncomputable def mL_main_c1 (n0 : Nat) (xs : Nat → Int32) (v1 : Nat) (v2 : Nat) (x : Int32) : MM (Int32 ⊕ (Unit ⊕ Unit)) :=
  mbnd (sld n0 xs (x + 1)) fun (v22 : Int32) =>
  mbnd (mX11_end v1 v22) fun (v23 : Int32) =>
  mbnd (sld n0 xs (x + 1)) fun (v24 : Int32) =>
  mbnd (mX12_end v2 v24) fun (v25 : Int32) =>
  if v23 = v25 then (
    mret (.inl (x + 6))
  ) else (
    mret (.inr (.inr ()))
  )
noncomputable def mL_main_c2 (v1 : Nat) (v2 : Nat) (v3 : Nat) (x : Int32) : MM (Int32 ⊕ (Unit ⊕ Unit)) :=
  mbnd (nox (mL_shop v1 v3)) fun (v28 : Int32) =>
  mbnd (mX12_shop v2) fun (v29 : Int32) =>
  mbnd (mX12_thrown v2) fun (v30 : Int32) =>
  if v30 = v28 then (
    if v28 = 0 then (
      mbnd (ldL v3 0) fun (v33 : Int64) =>
      if (lg_cmp v33 (v29.toInt64)) = 0 then (
        mret (.inl (x + 6))
      ) else (
        mret (.inr (.inr ()))
      )
    ) else (
      mret (.inl (x + 6))
    )
  ) else (
    mret (.inr (.inr ()))
  )
noncomputable def mL_main_c3 (v1 : Nat) (v2 : Nat) (v3 : Nat) (x : Int32) : MM (Int32 ⊕ (Unit ⊕ Unit)) :=
  mbnd (nox (mL_law v1 v3)) fun (v36 : Int32) =>
  mbnd (mX12_law v2) fun (v37 : Int32) =>
  mbnd (mX12_thrown v2) fun (v38 : Int32) =>
  if v38 = v36 then (
    if v36 = 0 then (
      mbnd (ldL v3 0) fun (v41 : Int64) =>
      if (lg_cmp v41 (v37.toInt64)) = 0 then (
        mret (.inl (x + 6))
      ) else (
        mret (.inr (.inr ()))
      )
    ) else (
      mret (.inl (x + 6))
    )
  ) else (
    mret (.inr (.inr ()))
  )
noncomputable def mL_main_c4 (v1 : Nat) (v2 : Nat) (x : Int32) : MM (Int32 ⊕ (Unit ⊕ Unit)) :=
  mbnd (mX11_fault v1) fun (v44 : Int32) =>
  mbnd (mX12_fault v2) fun (v45 : Int32) =>
  if v44 = v45 then (
    mret (.inl (x + 6))
  ) else (
    mret (.inr (.inr ()))
  )
noncomputable def mL_main_c5 (n0 : Nat) (xs : Nat → Int32) (v1 : Nat) (v2 : Nat) (v3 : Nat) (x : Int32) : MM (Int32 ⊕ (Unit ⊕ Unit)) :=
  mbnd (sld n0 xs (x + 1)) fun (v48 : Int32) =>
  mbnd (sld n0 xs (x + 2)) fun (v49 : Int32) =>
  mbnd (nox (mL_part v1 v48 v49 v3)) fun (v50 : Int32) =>
  mbnd (sld n0 xs (x + 1)) fun (v51 : Int32) =>
  mbnd (sld n0 xs (x + 2)) fun (v52 : Int32) =>
  mbnd (mX12_part v2 v51 v52) fun (v53 : Int32) =>
  mbnd (mX12_thrown v2) fun (v54 : Int32) =>
  if v54 = v50 then (
    if v50 = 0 then (
      mbnd (ldL v3 0) fun (v57 : Int64) =>
      if (lg_cmp v57 (v53.toInt64)) = 0 then (
        mret (.inl (x + 6))
      ) else (
        mret (.inr (.inr ()))
      )
    ) else (
      mret (.inl (x + 6))
    )
  ) else (
    mret (.inr (.inr ()))
  )
noncomputable def mL_main_c6 (n0 : Nat) (xs : Nat → Int32) (v1 : Nat) (v2 : Nat) (v3 : Nat) (x : Int32) : MM (Int32 ⊕ (Unit ⊕ Unit)) :=
  mbnd (sld n0 xs (x + 1)) fun (v60 : Int32) =>
  mbnd (sld n0 xs (x + 2)) fun (v61 : Int32) =>
  mbnd (nox (mL_tool v1 v60 v61 v3)) fun (v62 : Int32) =>
  mbnd (sld n0 xs (x + 1)) fun (v63 : Int32) =>
  mbnd (sld n0 xs (x + 2)) fun (v64 : Int32) =>
  mbnd (mX12_tool v2 v63 v64) fun (v65 : Int32) =>
  mbnd (mX12_thrown v2) fun (v66 : Int32) =>
  if v66 = v62 then (
    if v62 = 0 then (
      mbnd (ldL v3 0) fun (v69 : Int64) =>
      if (lg_cmp v69 (v65.toInt64)) = 0 then (
        mret (.inl (x + 6))
      ) else (
        mret (.inr (.inr ()))
      )
    ) else (
      mret (.inl (x + 6))
    )
  ) else (
    mret (.inr (.inr ()))
  )
noncomputable def mL_main_c7 (n0 : Nat) (xs : Nat → Int32) (v1 : Nat) (v2 : Nat) (v3 : Nat) (x : Int32) : MM (Int32 ⊕ (Unit ⊕ Unit)) :=
  mbnd (sld n0 xs (x + 1)) fun (v72 : Int32) =>
  mbnd (sld n0 xs (x + 2)) fun (v73 : Int32) =>
  mbnd (α := Int32) (
    if v73 = 0 then (
      mret 0
    ) else (
      mret 1
    )
  ) fun (x75 : Int32) =>
  mbnd (nox (mL_master v1 v72 x75 v3)) fun (v78 : Int32) =>
  mbnd (sld n0 xs (x + 1)) fun (v79 : Int32) =>
  mbnd (sld n0 xs (x + 2)) fun (v80 : Int32) =>
  mbnd (α := Int32) (
    if v80 = 0 then (
      mret 0
    ) else (
      mret 1
    )
  ) fun (x82 : Int32) =>
  mbnd (mX12_master v2 v79 x82) fun (v85 : Int32) =>
  mbnd (mX12_thrown v2) fun (v86 : Int32) =>
  if v86 = v78 then (
    if v78 = 0 then (
      mbnd (ldL v3 0) fun (v89 : Int64) =>
      if (lg_cmp v89 (v85.toInt64)) = 0 then (
        mret (.inl (x + 6))
      ) else (
        mret (.inr (.inr ()))
      )
    ) else (
      mret (.inl (x + 6))
    )
  ) else (
    mret (.inr (.inr ()))
  )
noncomputable def mL_main_c8 (n0 : Nat) (xs : Nat → Int32) (v1 : Nat) (v2 : Nat) (v3 : Nat) (x : Int32) : MM (Int32 ⊕ (Unit ⊕ Unit)) :=
  mbnd (sld n0 xs (x + 1)) fun (v92 : Int32) =>
  mbnd (sld n0 xs (x + 2)) fun (v93 : Int32) =>
  mbnd (nox (mL_rule v1 v92 v93 v3)) fun (v94 : Int32) =>
  mbnd (sld n0 xs (x + 1)) fun (v95 : Int32) =>
  mbnd (sld n0 xs (x + 2)) fun (v96 : Int32) =>
  mbnd (mX12_rule v2 v95 v96) fun (v97 : Int32) =>
  mbnd (mX12_thrown v2) fun (v98 : Int32) =>
  if v98 = v94 then (
    if v94 = 0 then (
      mbnd (ldL v3 0) fun (v101 : Int64) =>
      if (lg_cmp v101 (v97.toInt64)) = 0 then (
        mret (.inl (x + 6))
      ) else (
        mret (.inr (.inr ()))
      )
    ) else (
      mret (.inl (x + 6))
    )
  ) else (
    mret (.inr (.inr ()))
  )
noncomputable def mL_main_c9 (n0 : Nat) (xs : Nat → Int32) (v1 : Nat) (v2 : Nat) (v3 : Nat) (x : Int32) : MM (Int32 ⊕ (Unit ⊕ Unit)) :=
  mbnd (sld n0 xs (x + 1)) fun (v104 : Int32) =>
  mbnd (sld n0 xs (x + 2)) fun (v105 : Int32) =>
  mbnd (sld n0 xs (x + 3)) fun (v106 : Int32) =>
  mbnd (sld n0 xs (x + 4)) fun (v107 : Int32) =>
  mbnd (nox (mL_deed v1 v104 v105 v106 v107 v3)) fun (v108 : Int32) =>
  mbnd (sld n0 xs (x + 1)) fun (v109 : Int32) =>
  mbnd (sld n0 xs (x + 2)) fun (v110 : Int32) =>
  mbnd (sld n0 xs (x + 3)) fun (v111 : Int32) =>
  mbnd (sld n0 xs (x + 4)) fun (v112 : Int32) =>
  mbnd (mX12_deed v2 v109 v110 v111 v112) fun (v113 : Int32) =>
  mbnd (mX12_thrown v2) fun (v114 : Int32) =>
  if v114 = v108 then (
    if v108 = 0 then (
      mbnd (ldL v3 0) fun (v117 : Int64) =>
      if (lg_cmp v117 (v113.toInt64)) = 0 then (
        mret (.inl (x + 6))
      ) else (
        mret (.inr (.inr ()))
      )
    ) else (
      mret (.inl (x + 6))
    )
  ) else (
    mret (.inr (.inr ()))
  )
noncomputable def mL_main_c10 (n0 : Nat) (xs : Nat → Int32) (v1 : Nat) (v2 : Nat) (v3 : Nat) (x : Int32) : MM (Int32 ⊕ (Unit ⊕ Unit)) :=
  mbnd (sld n0 xs (x + 1)) fun (v120 : Int32) =>
  mbnd (sld n0 xs (x + 2)) fun (v121 : Int32) =>
  mbnd (sld n0 xs (x + 3)) fun (v122 : Int32) =>
  mbnd (nox (mL_swap v1 v120 v121 v122 v3)) fun (v123 : Int32) =>
  mbnd (sld n0 xs (x + 1)) fun (v124 : Int32) =>
  mbnd (sld n0 xs (x + 2)) fun (v125 : Int32) =>
  mbnd (sld n0 xs (x + 3)) fun (v126 : Int32) =>
  mbnd (mX12_swap v2 v124 v125 v126) fun (v127 : Int32) =>
  mbnd (mX12_thrown v2) fun (v128 : Int32) =>
  if v128 = v123 then (
    if v123 = 0 then (
      mbnd (ldL v3 0) fun (v131 : Int64) =>
      if (lg_cmp v131 (v127.toInt64)) = 0 then (
        mret (.inl (x + 6))
      ) else (
        mret (.inr (.inr ()))
      )
    ) else (
      mret (.inl (x + 6))
    )
  ) else (
    mret (.inr (.inr ()))
  )
noncomputable def mL_main_c11 (n0 : Nat) (xs : Nat → Int32) (v1 : Nat) (v2 : Nat) (v3 : Nat) (x : Int32) : MM (Int32 ⊕ (Unit ⊕ Unit)) :=
  mbnd (sld n0 xs (x + 1)) fun (v134 : Int32) =>
  mbnd (sld n0 xs (x + 2)) fun (v135 : Int32) =>
  mbnd (nox (mL_serve v1 v134 v135 v3)) fun (v136 : Int32) =>
  mbnd (sld n0 xs (x + 1)) fun (v137 : Int32) =>
  mbnd (sld n0 xs (x + 2)) fun (v138 : Int32) =>
  mbnd (mX12_serve v2 v137 v138) fun (v139 : Int32) =>
  mbnd (mX12_thrown v2) fun (v140 : Int32) =>
  if v140 = v136 then (
    if v136 = 0 then (
      mbnd (ldL v3 0) fun (v143 : Int64) =>
      if (lg_cmp v143 (v139.toInt64)) = 0 then (
        mret (.inl (x + 6))
      ) else (
        mret (.inr (.inr ()))
      )
    ) else (
      mret (.inl (x + 6))
    )
  ) else (
    mret (.inr (.inr ()))
  )
noncomputable def mL_main_c12 (n0 : Nat) (xs : Nat → Int32) (v1 : Nat) (v2 : Nat) (v3 : Nat) (x : Int32) : MM (Int32 ⊕ (Unit ⊕ Unit)) :=
  mbnd (sld n0 xs (x + 1)) fun (v146 : Int32) =>
  mbnd (nox (mL_grind v1 v146 v3)) fun (v147 : Int32) =>
  mbnd (sld n0 xs (x + 1)) fun (v148 : Int32) =>
  mbnd (mX12_grind v2 v148) fun (v149 : Int32) =>
  mbnd (mX12_thrown v2) fun (v150 : Int32) =>
  if v150 = v147 then (
    if v147 = 0 then (
      mbnd (ldL v3 0) fun (v153 : Int64) =>
      if (lg_cmp v153 (v149.toInt64)) = 0 then (
        mret (.inl (x + 6))
      ) else (
        mret (.inr (.inr ()))
      )
    ) else (
      mret (.inl (x + 6))
    )
  ) else (
    mret (.inr (.inr ()))
  )
noncomputable def mL_main_c13 (n0 : Nat) (xs : Nat → Int32) (v1 : Nat) (v2 : Nat) (v3 : Nat) (x : Int32) : MM (Int32 ⊕ (Unit ⊕ Unit)) :=
  mbnd (sld n0 xs (x + 1)) fun (v156 : Int32) =>
  mbnd (sld n0 xs (x + 2)) fun (v157 : Int32) =>
  mbnd (α := Int32) (
    if v157 = 0 then (
      mret 0
    ) else (
      mret 1
    )
  ) fun (x159 : Int32) =>
  mbnd (nox (mL_nail v1 v156 x159 v3)) fun (v162 : Int32) =>
  mbnd (sld n0 xs (x + 1)) fun (v163 : Int32) =>
  mbnd (sld n0 xs (x + 2)) fun (v164 : Int32) =>
  mbnd (α := Int32) (
    if v164 = 0 then (
      mret 0
    ) else (
      mret 1
    )
  ) fun (x166 : Int32) =>
  mbnd (mX12_nail v2 v163 x166) fun (v169 : Int32) =>
  mbnd (mX12_thrown v2) fun (v170 : Int32) =>
  if v170 = v162 then (
    if v162 = 0 then (
      mbnd (ldL v3 0) fun (v173 : Int64) =>
      mbnd (α := Int64) (
        if v169 = 0 then (
          mret 0
        ) else (
          mret 1
        )
      ) fun (x175 : Int64) =>
      if (lg_cmp v173 x175) = 0 then (
        mret (.inl (x + 6))
      ) else (
        mret (.inr (.inr ()))
      )
    ) else (
      mret (.inl (x + 6))
    )
  ) else (
    mret (.inr (.inr ()))
  )
noncomputable def mL_main_c14 (n0 : Nat) (xs : Nat → Int32) (v1 : Nat) (v2 : Nat) (v3 : Nat) (x : Int32) : MM (Int32 ⊕ (Unit ⊕ Unit)) :=
  mbnd (sld n0 xs (x + 1)) fun (v180 : Int32) =>
  mbnd (nox (mL_days v1 v180 v3)) fun (v181 : Int32) =>
  mbnd (sld n0 xs (x + 1)) fun (v182 : Int32) =>
  mbnd (mX12_days v2 v182) fun (v183 : Int32) =>
  mbnd (mX12_thrown v2) fun (v184 : Int32) =>
  if v184 = v181 then (
    if v181 = 0 then (
      mbnd (ldL v3 0) fun (v187 : Int64) =>
      if (lg_cmp v187 (v183.toInt64)) = 0 then (
        mret (.inl (x + 6))
      ) else (
        mret (.inr (.inr ()))
      )
    ) else (
      mret (.inl (x + 6))
    )
  ) else (
    mret (.inr (.inr ()))
  )
noncomputable def mL_main_c15 (v1 : Nat) (v2 : Nat) (x : Int32) : MM (Int32 ⊕ (Unit ⊕ Unit)) :=
  mbnd (mX11_guilty v1) fun (v190 : Int32) =>
  mbnd (mX12_guilty v2) fun (v191 : Int32) =>
  if v190 = v191 then (
    mret (.inl (x + 6))
  ) else (
    mret (.inr (.inr ()))
  )
noncomputable def mL_main_c16 (n0 : Nat) (xs : Nat → Int32) (v1 : Nat) (v2 : Nat) (v3 : Nat) (x : Int32) : MM (Int32 ⊕ (Unit ⊕ Unit)) :=
  mbnd (sld n0 xs (x + 1)) fun (v194 : Int32) =>
  mbnd (sld n0 xs (x + 2)) fun (v195 : Int32) =>
  mbnd (sld n0 xs (x + 3)) fun (v196 : Int32) =>
  mbnd (nox (mL_culprits v1 v194 v195 v196 v3)) fun (v197 : Int32) =>
  mbnd (sld n0 xs (x + 1)) fun (v198 : Int32) =>
  mbnd (sld n0 xs (x + 2)) fun (v199 : Int32) =>
  mbnd (sld n0 xs (x + 3)) fun (v200 : Int32) =>
  mbnd (mX12_culprits v2 v198 v199 v200) fun (v201 : Int32) =>
  mbnd (mX12_thrown v2) fun (v202 : Int32) =>
  if v202 = v197 then (
    if v197 = 0 then (
      mbnd (ldL v3 0) fun (v205 : Int64) =>
      if (lg_cmp v205 (v201.toInt64)) = 0 then (
        mret (.inl (x + 6))
      ) else (
        mret (.inr (.inr ()))
      )
    ) else (
      mret (.inl (x + 6))
    )
  ) else (
    mret (.inr (.inr ()))
  )
noncomputable def mL_main_c17 (n0 : Nat) (xs : Nat → Int32) (v1 : Nat) (v2 : Nat) (x : Int32) : MM (Int32 ⊕ (Unit ⊕ Unit)) :=
  mbnd (sld n0 xs (x + 1)) fun (v208 : Int32) =>
  mbnd (α := Int32) (
    if v208 = 0 then (
      mret 0
    ) else (
      mret 1
    )
  ) fun (x210 : Int32) =>
  mbnd (mX11_ask v1 x210) fun (v213 : Int32) =>
  mbnd (sld n0 xs (x + 1)) fun (v214 : Int32) =>
  mbnd (α := Int32) (
    if v214 = 0 then (
      mret 0
    ) else (
      mret 1
    )
  ) fun (x216 : Int32) =>
  mbnd (mX12_ask v2 x216) fun (v219 : Int32) =>
  if v213 = v219 then (
    mret (.inl (x + 6))
  ) else (
    mret (.inr (.inr ()))
  )
noncomputable def mL_main_c18 (n0 : Nat) (xs : Nat → Int32) (v1 : Nat) (v2 : Nat) (v3 : Nat) (x : Int32) : MM (Int32 ⊕ (Unit ⊕ Unit)) :=
  mbnd (sld n0 xs (x + 1)) fun (v222 : Int32) =>
  mbnd (sld n0 xs (x + 2)) fun (v223 : Int32) =>
  mbnd (α := Int32) (
    if v223 = 0 then (
      mret 0
    ) else (
      mret 1
    )
  ) fun (x225 : Int32) =>
  mbnd (nox (mL_laundered v1 v222 x225 v3)) fun (v228 : Int32) =>
  mbnd (sld n0 xs (x + 1)) fun (v229 : Int32) =>
  mbnd (sld n0 xs (x + 2)) fun (v230 : Int32) =>
  mbnd (α := Int32) (
    if v230 = 0 then (
      mret 0
    ) else (
      mret 1
    )
  ) fun (x232 : Int32) =>
  mbnd (mX12_laundered v2 v229 x232) fun (v235 : Int32) =>
  mbnd (mX12_thrown v2) fun (v236 : Int32) =>
  if v236 = v228 then (
    if v228 = 0 then (
      mbnd (ldL v3 0) fun (v239 : Int64) =>
      if (lg_cmp v239 (v235.toInt64)) = 0 then (
        mret (.inl (x + 6))
      ) else (
        mret (.inr (.inr ()))
      )
    ) else (
      mret (.inl (x + 6))
    )
  ) else (
    mret (.inr (.inr ()))
  )
noncomputable def mL_main_c19 (n0 : Nat) (xs : Nat → Int32) (v1 : Nat) (v2 : Nat) (v3 : Nat) (x : Int32) : MM (Int32 ⊕ (Unit ⊕ Unit)) :=
  mbnd (sld n0 xs (x + 1)) fun (v242 : Int32) =>
  mbnd (nox (mL_guard v1 v242 v3)) fun (v243 : Int32) =>
  mbnd (sld n0 xs (x + 1)) fun (v244 : Int32) =>
  mbnd (mX12_guard v2 v244) fun (v245 : Int32) =>
  mbnd (mX12_thrown v2) fun (v246 : Int32) =>
  if v246 = v243 then (
    if v243 = 0 then (
      mbnd (ldL v3 0) fun (v249 : Int64) =>
      if (lg_cmp v249 (v245.toInt64)) = 0 then (
        mret (.inl (x + 6))
      ) else (
        mret (.inr (.inr ()))
      )
    ) else (
      mret (.inl (x + 6))
    )
  ) else (
    mret (.inr (.inr ()))
  )
noncomputable def mL_main_c20 (n0 : Nat) (xs : Nat → Int32) (v1 : Nat) (v2 : Nat) (v3 : Nat) (x : Int32) : MM (Int32 ⊕ (Unit ⊕ Unit)) :=
  mbnd (sld n0 xs (x + 1)) fun (v252 : Int32) =>
  mbnd (nox (mL_word v1 v252 v3)) fun (v253 : Int32) =>
  mbnd (sld n0 xs (x + 1)) fun (v254 : Int32) =>
  mbnd (mX12_word v2 v254) fun (v255 : Int32) =>
  mbnd (mX12_thrown v2) fun (v256 : Int32) =>
  if v256 = v253 then (
    if v253 = 0 then (
      mbnd (ldL v3 0) fun (v259 : Int64) =>
      if (lg_cmp v259 (v255.toInt64)) = 0 then (
        mret (.inl (x + 6))
      ) else (
        mret (.inr (.inr ()))
      )
    ) else (
      mret (.inl (x + 6))
    )
  ) else (
    mret (.inr (.inr ()))
  )
noncomputable def mL_main_c21 (v1 : Nat) (v2 : Nat) (x : Int32) : MM (Int32 ⊕ (Unit ⊕ Unit)) :=
  mbnd (mX11_clean v1) fun (v262 : Int32) =>
  mbnd (mX12_clean v2) fun (v263 : Int32) =>
  if v262 = v263 then (
    mret (.inl (x + 6))
  ) else (
    mret (.inr (.inr ()))
  )
noncomputable def mL_main_c22 (n0 : Nat) (xs : Nat → Int32) (v1 : Nat) (v2 : Nat) (v3 : Nat) (x : Int32) : MM (Int32 ⊕ (Unit ⊕ Unit)) :=
  mbnd (sld n0 xs (x + 1)) fun (v266 : Int32) =>
  mbnd (sld n0 xs (x + 2)) fun (v267 : Int32) =>
  mbnd (sld n0 xs (x + 3)) fun (v268 : Int32) =>
  mbnd (α := Int32) (
    if v268 = 0 then (
      mret 0
    ) else (
      mret 1
    )
  ) fun (x270 : Int32) =>
  mbnd (nox (mL_exchange v1 v266 v267 x270 v3)) fun (v273 : Int32) =>
  mbnd (sld n0 xs (x + 1)) fun (v274 : Int32) =>
  mbnd (sld n0 xs (x + 2)) fun (v275 : Int32) =>
  mbnd (sld n0 xs (x + 3)) fun (v276 : Int32) =>
  mbnd (α := Int32) (
    if v276 = 0 then (
      mret 0
    ) else (
      mret 1
    )
  ) fun (x278 : Int32) =>
  mbnd (mX12_exchange v2 v274 v275 x278) fun (v281 : Int32) =>
  mbnd (mX12_thrown v2) fun (v282 : Int32) =>
  if v282 = v273 then (
    if v273 = 0 then (
      mbnd (ldL v3 0) fun (v285 : Int64) =>
      if (lg_cmp v285 (v281.toInt64)) = 0 then (
        mret (.inl (x + 6))
      ) else (
        mret (.inr (.inr ()))
      )
    ) else (
      mret (.inl (x + 6))
    )
  ) else (
    mret (.inr (.inr ()))
  )
noncomputable def mL_main_c23 (n0 : Nat) (xs : Nat → Int32) (v1 : Nat) (v2 : Nat) (v3 : Nat) (x : Int32) : MM (Int32 ⊕ (Unit ⊕ Unit)) :=
  mbnd (sld n0 xs (x + 1)) fun (v288 : Int32) =>
  mbnd (nox (mL_with v1 v288 v3)) fun (v289 : Int32) =>
  mbnd (sld n0 xs (x + 1)) fun (v290 : Int32) =>
  mbnd (mX12_with v2 v290) fun (v291 : Int32) =>
  mbnd (mX12_thrown v2) fun (v292 : Int32) =>
  if v292 = v289 then (
    if v289 = 0 then (
      mbnd (ldL v3 0) fun (v295 : Int64) =>
      if (lg_cmp v295 (v291.toInt64)) = 0 then (
        mret (.inl (x + 6))
      ) else (
        mret (.inr (.inr ()))
      )
    ) else (
      mret (.inl (x + 6))
    )
  ) else (
    mret (.inr (.inr ()))
  )
noncomputable def mL_main_c24 (n0 : Nat) (xs : Nat → Int32) (v1 : Nat) (v2 : Nat) (v3 : Nat) (x : Int32) : MM (Int32 ⊕ (Unit ⊕ Unit)) :=
  mbnd (sld n0 xs (x + 1)) fun (v298 : Int32) =>
  mbnd (sld n0 xs (x + 2)) fun (v299 : Int32) =>
  mbnd (α := Int32) (
    if v299 = 0 then (
      mret 0
    ) else (
      mret 1
    )
  ) fun (x301 : Int32) =>
  mbnd (nox (mL_strokes v1 v298 x301 v3)) fun (v304 : Int32) =>
  mbnd (sld n0 xs (x + 1)) fun (v305 : Int32) =>
  mbnd (sld n0 xs (x + 2)) fun (v306 : Int32) =>
  mbnd (α := Int32) (
    if v306 = 0 then (
      mret 0
    ) else (
      mret 1
    )
  ) fun (x308 : Int32) =>
  mbnd (mX12_strokes v2 v305 x308) fun (v311 : Int32) =>
  mbnd (mX12_thrown v2) fun (v312 : Int32) =>
  if v312 = v304 then (
    if v304 = 0 then (
      mbnd (ldL v3 0) fun (v315 : Int64) =>
      if (lg_cmp v315 (v311.toInt64)) = 0 then (
        mret (.inl (x + 6))
      ) else (
        mret (.inr (.inr ()))
      )
    ) else (
      mret (.inl (x + 6))
    )
  ) else (
    mret (.inr (.inr ()))
  )
noncomputable def mL_main_c25 (n0 : Nat) (xs : Nat → Int32) (v1 : Nat) (v2 : Nat) (v3 : Nat) (x : Int32) : MM (Int32 ⊕ (Unit ⊕ Unit)) :=
  mbnd (sld n0 xs (x + 1)) fun (v318 : Int32) =>
  mbnd (sld n0 xs (x + 2)) fun (v319 : Int32) =>
  mbnd (nox (mL_harmed v1 v318 v319 v3)) fun (v320 : Int32) =>
  mbnd (sld n0 xs (x + 1)) fun (v321 : Int32) =>
  mbnd (sld n0 xs (x + 2)) fun (v322 : Int32) =>
  mbnd (mX12_harmed v2 v321 v322) fun (v323 : Int32) =>
  mbnd (mX12_thrown v2) fun (v324 : Int32) =>
  if v324 = v320 then (
    if v320 = 0 then (
      mbnd (ldL v3 0) fun (v327 : Int64) =>
      if (lg_cmp v327 (v323.toInt64)) = 0 then (
        mret (.inl (x + 6))
      ) else (
        mret (.inr (.inr ()))
      )
    ) else (
      mret (.inl (x + 6))
    )
  ) else (
    mret (.inr (.inr ()))
  )
noncomputable def mL_main_c26 (n0 : Nat) (xs : Nat → Int32) (v1 : Nat) (v2 : Nat) (x : Int32) : MM (Int32 ⊕ (Unit ⊕ Unit)) :=
  mbnd (sld n0 xs (x + 1)) fun (v330 : Int32) =>
  mbnd (mX11_cell v1 v330) fun (v331 : Int32) =>
  mbnd (sld n0 xs (x + 1)) fun (v332 : Int32) =>
  mbnd (mX12_cell v2 v332) fun (v333 : Int32) =>
  if v331 = v333 then (
    mret (.inl (x + 6))
  ) else (
    mret (.inr (.inr ()))
  )
noncomputable def mL_main_c27 (n0 : Nat) (xs : Nat → Int32) (v1 : Nat) (v2 : Nat) (v3 : Nat) (x : Int32) : MM (Int32 ⊕ (Unit ⊕ Unit)) :=
  mbnd (sld n0 xs (x + 1)) fun (v336 : Int32) =>
  mbnd (sld n0 xs (x + 2)) fun (v337 : Int32) =>
  mbnd (nox (mL_joint v1 v336 v337 v3)) fun (v338 : Int32) =>
  mbnd (sld n0 xs (x + 1)) fun (v339 : Int32) =>
  mbnd (sld n0 xs (x + 2)) fun (v340 : Int32) =>
  mbnd (mX12_joint v2 v339 v340) fun (v341 : Int32) =>
  mbnd (mX12_thrown v2) fun (v342 : Int32) =>
  if v342 = v338 then (
    if v338 = 0 then (
      mbnd (ldL v3 0) fun (v345 : Int64) =>
      if (lg_cmp v345 (v341.toInt64)) = 0 then (
        mret (.inl (x + 6))
      ) else (
        mret (.inr (.inr ()))
      )
    ) else (
      mret (.inl (x + 6))
    )
  ) else (
    mret (.inr (.inr ()))
  )
noncomputable def mL_main_c28 (n0 : Nat) (xs : Nat → Int32) (v1 : Nat) (v2 : Nat) (v3 : Nat) (x : Int32) : MM (Int32 ⊕ (Unit ⊕ Unit)) :=
  mbnd (sld n0 xs (x + 1)) fun (v348 : Int32) =>
  mbnd (sld n0 xs (x + 2)) fun (v349 : Int32) =>
  mbnd (sld n0 xs (x + 3)) fun (v350 : Int32) =>
  mbnd (α := Int32) (
    if v350 = 0 then (
      mret 0
    ) else (
      mret 1
    )
  ) fun (x352 : Int32) =>
  mbnd (nox (mL_clock v1 v348 v349 x352 v3)) fun (v355 : Int32) =>
  mbnd (sld n0 xs (x + 1)) fun (v356 : Int32) =>
  mbnd (sld n0 xs (x + 2)) fun (v357 : Int32) =>
  mbnd (sld n0 xs (x + 3)) fun (v358 : Int32) =>
  mbnd (α := Int32) (
    if v358 = 0 then (
      mret 0
    ) else (
      mret 1
    )
  ) fun (x360 : Int32) =>
  mbnd (mX12_clock v2 v356 v357 x360) fun (v363 : Int32) =>
  mbnd (mX12_thrown v2) fun (v364 : Int32) =>
  if v364 = v355 then (
    if v355 = 0 then (
      mbnd (ldL v3 0) fun (v367 : Int64) =>
      if (lg_cmp v367 (v363.toInt64)) = 0 then (
        mret (.inl (x + 6))
      ) else (
        mret (.inr (.inr ()))
      )
    ) else (
      mret (.inl (x + 6))
    )
  ) else (
    mret (.inr (.inr ()))
  )
noncomputable def mL_main_c29 (n0 : Nat) (xs : Nat → Int32) (v1 : Nat) (v2 : Nat) (v3 : Nat) (x : Int32) : MM (Int32 ⊕ (Unit ⊕ Unit)) :=
  mbnd (sld n0 xs (x + 1)) fun (v370 : Int32) =>
  mbnd (α := Int32) (
    if v370 = 0 then (
      mret 0
    ) else (
      mret 1
    )
  ) fun (x372 : Int32) =>
  mbnd (nox (mL_together v1 x372 v3)) fun (v375 : Int32) =>
  mbnd (sld n0 xs (x + 1)) fun (v376 : Int32) =>
  mbnd (α := Int32) (
    if v376 = 0 then (
      mret 0
    ) else (
      mret 1
    )
  ) fun (x378 : Int32) =>
  mbnd (mX12_together v2 x378) fun (v381 : Int32) =>
  mbnd (mX12_thrown v2) fun (v382 : Int32) =>
  if v382 = v375 then (
    if v375 = 0 then (
      mbnd (ldL v3 0) fun (v385 : Int64) =>
      if (lg_cmp v385 (v381.toInt64)) = 0 then (
        mret (.inl (x + 6))
      ) else (
        mret (.inr (.inr ()))
      )
    ) else (
      mret (.inl (x + 6))
    )
  ) else (
    mret (.inr (.inr ()))
  )
noncomputable def mL_main_c30 (v1 : Nat) (v2 : Nat) (x : Int32) : MM (Int32 ⊕ (Unit ⊕ Unit)) :=
  mbnd (mX11_heir v1) fun (v388 : Int32) =>
  mbnd (mX12_heir v2) fun (v389 : Int32) =>
  if v388 = v389 then (
    mret (.inl (x + 6))
  ) else (
    mret (.inr (.inr ()))
  )
noncomputable def mL_main_c31 (n0 : Nat) (xs : Nat → Int32) (v1 : Nat) (v2 : Nat) (v3 : Nat) (x : Int32) : MM (Int32 ⊕ (Unit ⊕ Unit)) :=
  mbnd (sld n0 xs (x + 1)) fun (v392 : Int32) =>
  mbnd (sld n0 xs (x + 2)) fun (v393 : Int32) =>
  mbnd (nox (mL_jury v1 v392 v393 v3)) fun (v394 : Int32) =>
  mbnd (sld n0 xs (x + 1)) fun (v395 : Int32) =>
  mbnd (sld n0 xs (x + 2)) fun (v396 : Int32) =>
  mbnd (mX12_jury v2 v395 v396) fun (v397 : Int32) =>
  mbnd (mX12_thrown v2) fun (v398 : Int32) =>
  if v398 = v394 then (
    if v394 = 0 then (
      mbnd (ldL v3 0) fun (v401 : Int64) =>
      mbnd (α := Int64) (
        if v397 = 0 then (
          mret 0
        ) else (
          mret 1
        )
      ) fun (x403 : Int64) =>
      if (lg_cmp v401 x403) = 0 then (
        mret (.inl (x + 6))
      ) else (
        mret (.inr (.inr ()))
      )
    ) else (
      mret (.inl (x + 6))
    )
  ) else (
    mret (.inr (.inr ()))
  )
noncomputable def mL_main_c32 (n0 : Nat) (xs : Nat → Int32) (v1 : Nat) (v2 : Nat) (v3 : Nat) (x : Int32) : MM (Int32 ⊕ (Unit ⊕ Unit)) :=
  mbnd (sld n0 xs (x + 1)) fun (v408 : Int32) =>
  mbnd (sld n0 xs (x + 2)) fun (v409 : Int32) =>
  mbnd (nox (mL_alibi v1 v408 v409 v3)) fun (v410 : Int32) =>
  mbnd (sld n0 xs (x + 1)) fun (v411 : Int32) =>
  mbnd (sld n0 xs (x + 2)) fun (v412 : Int32) =>
  mbnd (mX12_alibi v2 v411 v412) fun (v413 : Int32) =>
  mbnd (mX12_thrown v2) fun (v414 : Int32) =>
  if v414 = v410 then (
    if v410 = 0 then (
      mbnd (ldL v3 0) fun (v417 : Int64) =>
      mbnd (α := Int64) (
        if v413 = 0 then (
          mret 0
        ) else (
          mret 1
        )
      ) fun (x419 : Int64) =>
      if (lg_cmp v417 x419) = 0 then (
        mret (.inl (x + 6))
      ) else (
        mret (.inr (.inr ()))
      )
    ) else (
      mret (.inl (x + 6))
    )
  ) else (
    mret (.inr (.inr ()))
  )
noncomputable def mL_main_c33 (v1 : Nat) (v2 : Nat) (x : Int32) : MM (Int32 ⊕ (Unit ⊕ Unit)) :=
  mbnd (mX11_worstMaster v1) fun (v424 : Int32) =>
  mbnd (mX12_worstMaster v2) fun (v425 : Int32) =>
  if v424 = v425 then (
    mret (.inl (x + 6))
  ) else (
    mret (.inr (.inr ()))
  )
noncomputable def mL_main_c34 (n0 : Nat) (xs : Nat → Int32) (v1 : Nat) (v2 : Nat) (v3 : Nat) (x : Int32) : MM (Int32 ⊕ (Unit ⊕ Unit)) :=
  mbnd (sld n0 xs (x + 1)) fun (v428 : Int32) =>
  mbnd (sld n0 xs (x + 2)) fun (v429 : Int32) =>
  mbnd (nox (mL_pairs v1 v428 v429 v3)) fun (v430 : Int32) =>
  mbnd (sld n0 xs (x + 1)) fun (v431 : Int32) =>
  mbnd (sld n0 xs (x + 2)) fun (v432 : Int32) =>
  mbnd (mX12_pairs v2 v431 v432) fun (v433 : Int32) =>
  mbnd (mX12_thrown v2) fun (v434 : Int32) =>
  if v434 = v430 then (
    if v430 = 0 then (
      mbnd (ldL v3 0) fun (v437 : Int64) =>
      if (lg_cmp v437 (v433.toInt64)) = 0 then (
        mret (.inl (x + 6))
      ) else (
        mret (.inr (.inr ()))
      )
    ) else (
      mret (.inl (x + 6))
    )
  ) else (
    mret (.inr (.inr ()))
  )
noncomputable def mL_main_c35 (n0 : Nat) (xs : Nat → Int32) (v1 : Nat) (v2 : Nat) (v3 : Nat) (x : Int32) : MM (Int32 ⊕ (Unit ⊕ Unit)) :=
  mbnd (sld n0 xs (x + 1)) fun (v440 : Int32) =>
  mbnd (nox (mL_trial v1 v440 v3)) fun (v441 : Int32) =>
  mbnd (sld n0 xs (x + 1)) fun (v442 : Int32) =>
  mbnd (mX12_trial v2 v442) fun (v443 : Int32) =>
  mbnd (mX12_thrown v2) fun (v444 : Int32) =>
  if v444 = v441 then (
    if v441 = 0 then (
      mbnd (ldL v3 0) fun (v447 : Int64) =>
      if (lg_cmp v447 (v443.toInt64)) = 0 then (
        mret (.inl (x + 6))
      ) else (
        mret (.inr (.inr ()))
      )
    ) else (
      mret (.inl (x + 6))
    )
  ) else (
    mret (.inr (.inr ()))
  )
noncomputable def mL_main_c36 (n0 : Nat) (xs : Nat → Int32) (v1 : Nat) (v2 : Nat) (v3 : Nat) (x : Int32) : MM (Int32 ⊕ (Unit ⊕ Unit)) :=
  mbnd (sld n0 xs (x + 1)) fun (v450 : Int32) =>
  mbnd (sld n0 xs (x + 2)) fun (v451 : Int32) =>
  mbnd (α := Int32) (
    if v451 = 0 then (
      mret 0
    ) else (
      mret 1
    )
  ) fun (x453 : Int32) =>
  mbnd (nox (mL_span v1 v450 x453 v3)) fun (v456 : Int32) =>
  mbnd (sld n0 xs (x + 1)) fun (v457 : Int32) =>
  mbnd (sld n0 xs (x + 2)) fun (v458 : Int32) =>
  mbnd (α := Int32) (
    if v458 = 0 then (
      mret 0
    ) else (
      mret 1
    )
  ) fun (x460 : Int32) =>
  mbnd (mX12_span v2 v457 x460) fun (v463 : Int32) =>
  mbnd (mX12_thrown v2) fun (v464 : Int32) =>
  if v464 = v456 then (
    if v456 = 0 then (
      mbnd (ldL v3 0) fun (v467 : Int64) =>
      if (lg_cmp v467 (v463.toInt64)) = 0 then (
        mret (.inl (x + 6))
      ) else (
        mret (.inr (.inr ()))
      )
    ) else (
      mret (.inl (x + 6))
    )
  ) else (
    mret (.inr (.inr ()))
  )
noncomputable def mL_main_c37 (n0 : Nat) (xs : Nat → Int32) (v1 : Nat) (v2 : Nat) (v3 : Nat) (x : Int32) : MM (Int32 ⊕ (Unit ⊕ Unit)) :=
  mbnd (sld n0 xs (x + 1)) fun (v470 : Int32) =>
  mbnd (sld n0 xs (x + 2)) fun (v471 : Int32) =>
  mbnd (sld n0 xs (x + 3)) fun (v472 : Int32) =>
  mbnd (sld n0 xs (x + 4)) fun (v473 : Int32) =>
  mbnd (nox (mL_after v1 v470 v471 v472 v473 v3)) fun (v474 : Int32) =>
  mbnd (sld n0 xs (x + 1)) fun (v475 : Int32) =>
  mbnd (sld n0 xs (x + 2)) fun (v476 : Int32) =>
  mbnd (sld n0 xs (x + 3)) fun (v477 : Int32) =>
  mbnd (sld n0 xs (x + 4)) fun (v478 : Int32) =>
  mbnd (mX12_after_ v2 v475 v476 v477 v478) fun (v479 : Int32) =>
  mbnd (mX12_thrown v2) fun (v480 : Int32) =>
  if v480 = v474 then (
    if v474 = 0 then (
      mbnd (ldL v3 0) fun (v483 : Int64) =>
      if (lg_cmp v483 (v479.toInt64)) = 0 then (
        mret (.inl (x + 6))
      ) else (
        mret (.inr (.inr ()))
      )
    ) else (
      mret (.inl (x + 6))
    )
  ) else (
    mret (.inr (.inr ()))
  )
noncomputable def mL_main_c38 (n0 : Nat) (xs : Nat → Int32) (v1 : Nat) (v2 : Nat) (v3 : Nat) (x : Int32) : MM (Int32 ⊕ (Unit ⊕ Unit)) :=
  mbnd (sld n0 xs (x + 1)) fun (v486 : Int32) =>
  mbnd (sld n0 xs (x + 2)) fun (v487 : Int32) =>
  mbnd (sld n0 xs (x + 3)) fun (v488 : Int32) =>
  mbnd (nox (mL_worst v1 v486 v487 v488 v3)) fun (v489 : Int32) =>
  mbnd (sld n0 xs (x + 1)) fun (v490 : Int32) =>
  mbnd (sld n0 xs (x + 2)) fun (v491 : Int32) =>
  mbnd (sld n0 xs (x + 3)) fun (v492 : Int32) =>
  mbnd (mX12_worst v2 v490 v491 v492) fun (v493 : Int32) =>
  mbnd (mX12_thrown v2) fun (v494 : Int32) =>
  if v494 = v489 then (
    if v489 = 0 then (
      mbnd (ldL v3 0) fun (v497 : Int64) =>
      if (lg_cmp v497 (v493.toInt64)) = 0 then (
        mret (.inl (x + 6))
      ) else (
        mret (.inr (.inr ()))
      )
    ) else (
      mret (.inl (x + 6))
    )
  ) else (
    mret (.inr (.inr ()))
  )
noncomputable def mL_main_c39 (n0 : Nat) (xs : Nat → Int32) (v1 : Nat) (v2 : Nat) (v3 : Nat) (x : Int32) : MM (Int32 ⊕ (Unit ⊕ Unit)) :=
  mbnd (sld n0 xs (x + 1)) fun (v500 : Int32) =>
  mbnd (nox (mL_sure v1 v500 v3)) fun (v501 : Int32) =>
  mbnd (sld n0 xs (x + 1)) fun (v502 : Int32) =>
  mbnd (mX12_sure v2 v502) fun (v503 : Int32) =>
  mbnd (mX12_thrown v2) fun (v504 : Int32) =>
  if v504 = v501 then (
    if v501 = 0 then (
      mbnd (ldL v3 0) fun (v507 : Int64) =>
      if (lg_cmp v507 (v503.toInt64)) = 0 then (
        mret (.inl (x + 6))
      ) else (
        mret (.inr (.inr ()))
      )
    ) else (
      mret (.inl (x + 6))
    )
  ) else (
    mret (.inr (.inr ()))
  )
noncomputable def mL_main_c40 (n0 : Nat) (xs : Nat → Int32) (v1 : Nat) (v2 : Nat) (v3 : Nat) (x : Int32) : MM (Int32 ⊕ (Unit ⊕ Unit)) :=
  mbnd (sld n0 xs (x + 1)) fun (v510 : Int32) =>
  mbnd (sld n0 xs (x + 2)) fun (v511 : Int32) =>
  mbnd (nox (mL_truth v1 v510 v511 v3)) fun (v512 : Int32) =>
  mbnd (sld n0 xs (x + 1)) fun (v513 : Int32) =>
  mbnd (sld n0 xs (x + 2)) fun (v514 : Int32) =>
  mbnd (mX12_truth v2 v513 v514) fun (v515 : Int32) =>
  mbnd (mX12_thrown v2) fun (v516 : Int32) =>
  if v516 = v512 then (
    if v512 = 0 then (
      mbnd (ldL v3 0) fun (v519 : Int64) =>
      if (lg_cmp v519 (v515.toInt64)) = 0 then (
        mret (.inl (x + 6))
      ) else (
        mret (.inr (.inr ()))
      )
    ) else (
      mret (.inl (x + 6))
    )
  ) else (
    mret (.inr (.inr ()))
  )
noncomputable def mL_main_c41 (n0 : Nat) (xs : Nat → Int32) (v1 : Nat) (v2 : Nat) (v3 : Nat) (x : Int32) : MM (Int32 ⊕ (Unit ⊕ Unit)) :=
  mbnd (sld n0 xs (x + 1)) fun (v522 : Int32) =>
  mbnd (sld n0 xs (x + 2)) fun (v523 : Int32) =>
  mbnd (nox (mL_log v1 v522 v523 v3)) fun (v524 : Int32) =>
  mbnd (sld n0 xs (x + 1)) fun (v525 : Int32) =>
  mbnd (sld n0 xs (x + 2)) fun (v526 : Int32) =>
  mbnd (mX12_log v2 v525 v526) fun (v527 : Int32) =>
  mbnd (mX12_thrown v2) fun (v528 : Int32) =>
  if v528 = v524 then (
    if v524 = 0 then (
      mbnd (ldL v3 0) fun (v531 : Int64) =>
      if (lg_cmp v531 (v527.toInt64)) = 0 then (
        mret (.inl (x + 6))
      ) else (
        mret (.inr (.inr ()))
      )
    ) else (
      mret (.inl (x + 6))
    )
  ) else (
    mret (.inr (.inr ()))
  )
noncomputable def mL_main_c42 (n0 : Nat) (xs : Nat → Int32) (v1 : Nat) (v2 : Nat) (v3 : Nat) (x : Int32) : MM (Int32 ⊕ (Unit ⊕ Unit)) :=
  mbnd (sld n0 xs (x + 1)) fun (v534 : Int32) =>
  mbnd (nox (mL_led v1 v534 v3)) fun (v535 : Int32) =>
  mbnd (sld n0 xs (x + 1)) fun (v536 : Int32) =>
  mbnd (mX12_led v2 v536) fun (v537 : Int32) =>
  mbnd (mX12_thrown v2) fun (v538 : Int32) =>
  if v538 = v535 then (
    if v535 = 0 then (
      mbnd (ldL v3 0) fun (v541 : Int64) =>
      if (lg_cmp v541 (v537.toInt64)) = 0 then (
        mret (.inl (x + 6))
      ) else (
        mret (.inr (.inr ()))
      )
    ) else (
      mret (.inl (x + 6))
    )
  ) else (
    mret (.inr (.inr ()))
  )
noncomputable def mL_main_c43 (n0 : Nat) (xs : Nat → Int32) (v1 : Nat) (v2 : Nat) (x : Int32) : MM (Int32 ⊕ (Unit ⊕ Unit)) :=
  mbnd (sld n0 xs (x + 1)) fun (v544 : Int32) =>
  mbnd (mX11_seed v1 v544) fun (v545 : Int32) =>
  mbnd (sld n0 xs (x + 1)) fun (v546 : Int32) =>
  mbnd (mX12_seed v2 v546) fun (v547 : Int32) =>
  if v545 = v547 then (
    mret (.inl (x + 6))
  ) else (
    mret (.inr (.inr ()))
  )
noncomputable def mL_main_c44 (v1 : Nat) (v2 : Nat) (x : Int32) : MM (Int32 ⊕ (Unit ⊕ Unit)) :=
  mbnd (mX11_undo v1) fun (v550 : Int32) =>
  mbnd (mX12_undo v2) fun (v551 : Int32) =>
  if v550 = v551 then (
    mret (.inl (x + 6))
  ) else (
    mret (.inr (.inr ()))
  )
noncomputable def mL_main_c45 (v1 : Nat) (v2 : Nat) (x : Int32) : MM (Int32 ⊕ (Unit ⊕ Unit)) :=
  mbnd (mX11_image v1) fun _ =>
  mbnd (mX12_image v2) fun _ =>
  mret (.inl (x + 6))
noncomputable def mL_main_c46 (v1 : Nat) (v2 : Nat) (x : Int32) : MM (Int32 ⊕ (Unit ⊕ Unit)) :=
  mbnd (mX11_back v1) fun (v555 : Int32) =>
  mbnd (mX12_back v2) fun (v556 : Int32) =>
  if v555 = v556 then (
    mret (.inl (x + 6))
  ) else (
    mret (.inr (.inr ()))
  )
noncomputable def mL_main_c47 (n0 : Nat) (xs : Nat → Int32) (v1 : Nat) (v2 : Nat) (x : Int32) : MM (Int32 ⊕ (Unit ⊕ Unit)) :=
  mbnd (sld n0 xs (x + 1)) fun (v559 : Int32) =>
  mbnd (mX11_count v1 v559) fun (v560 : Int32) =>
  mbnd (sld n0 xs (x + 1)) fun (v561 : Int32) =>
  mbnd (mX12_count v2 v561) fun (v562 : Int32) =>
  if v560 = v562 then (
    mret (.inl (x + 6))
  ) else (
    mret (.inr (.inr ()))
  )
set_option maxHeartbeats 4000000 in
set_option maxRecDepth 100000 in
theorem rmL_main_c0 (n0 : Nat) (xs : Nat → Int32) (v1 : Nat) (v2 : Nat) (v3 : Nat) (x : Int32) (v6 : Int32) (Y : DyA) (hx : wX (yW Y) = xs ∧ wL (yW Y) = n0) (K : Int32 ⊕ (Unit ⊕ Unit) → MM Int32) (hb : ∀ (x : Int32) (s : aS), Rr aL_main Y 23 [(0, vt 999), (1, vr v1), (2, vr v2), (3, vr v3), (4, vi x)] [] (mret (.inl x) : MM (Int32 ⊕ (Unit ⊕ Unit))) K rI s) (hk : K (.inr (.inr ())) = mret 0) (hk1 : K (.inr (.inl ())) = mret 1) (s : aS) : Rr aL_main Y 248 [(0, vt 999), (1, vr v1), (2, vr v2), (3, vr v3), (4, vi x)] [] (mL_main_c0 n0 xs v1 v2 x) K rI s := by
  unfold mL_main_c0
  refine r_p (pc' := 249) (p_aload_n 1 (k := 1) (by decide +kernel) rfl) ?_
  refine r_p (pc' := 250) (p_tload_n 0 (k := 0) (Nat.le_of_ble_eq_true rfl) (by decide +kernel) rfl) ?_
  refine r_p (pc' := 252) (p_iload 4 (i := 4) (by decide +kernel) rfl) ?_
  refine r_p (pc' := 253) (p_iconst (n := 1) (v := 1) (by decide +kernel) rfl) ?_
  refine r_p (pc' := 254) (p_iadd (by decide +kernel)) ?_
  refine r_sldx (by decide +kernel) hx fun v8 => ?_
  refine r_p (pc' := 256) (p_tload_n 0 (k := 0) (Nat.le_of_ble_eq_true rfl) (by decide +kernel) rfl) ?_
  refine r_p (pc' := 258) (p_iload 4 (i := 4) (by decide +kernel) rfl) ?_
  refine r_p (pc' := 259) (p_iconst (n := 2) (v := 2) (by decide +kernel) rfl) ?_
  refine r_p (pc' := 260) (p_iadd (by decide +kernel)) ?_
  refine r_sldx (by decide +kernel) hx fun v9 => ?_
  refine r_p (pc' := 262) (p_tload_n 0 (k := 0) (Nat.le_of_ble_eq_true rfl) (by decide +kernel) rfl) ?_
  refine r_p (pc' := 264) (p_iload 4 (i := 4) (by decide +kernel) rfl) ?_
  refine r_p (pc' := 265) (p_iconst (n := 3) (v := 3) (by decide +kernel) rfl) ?_
  refine r_p (pc' := 266) (p_iadd (by decide +kernel)) ?_
  refine r_sldx (by decide +kernel) hx fun v10 => ?_
  refine r_p (pc' := 268) (p_tload_n 0 (k := 0) (Nat.le_of_ble_eq_true rfl) (by decide +kernel) rfl) ?_
  refine r_p (pc' := 270) (p_iload 4 (i := 4) (by decide +kernel) rfl) ?_
  refine r_p (pc' := 271) (p_iconst (n := 4) (v := 4) (by decide +kernel) rfl) ?_
  refine r_p (pc' := 272) (p_iadd (by decide +kernel)) ?_
  refine r_sldx (by decide +kernel) hx fun v11 => ?_
  refine r_p (pc' := 274) (p_tload_n 0 (k := 0) (Nat.le_of_ble_eq_true rfl) (by decide +kernel) rfl) ?_
  refine r_p (pc' := 276) (p_iload 4 (i := 4) (by decide +kernel) rfl) ?_
  refine r_p (pc' := 277) (p_iconst (n := 5) (v := 5) (by decide +kernel) rfl) ?_
  refine r_p (pc' := 278) (p_iadd (by decide +kernel)) ?_
  refine r_sldx (by decide +kernel) hx fun v12 => ?_
  refine r_callVI mvL_135 (ctX11_feed v1 v8 v9 v10 v11 v12) (rcX11_feed v1 v8 v9 v10 v11 v12) ⟨_, _, rfl⟩ (as := [vi v8, vi v9, vi v10, vi v11, vi v12]) (st := []) rfl rfl (by decide +kernel) rfl (Nat.le_of_ble_eq_true rfl) (Nat.le_of_ble_eq_true rfl) fun v13 s => ?_
  refine r_p (pc' := 283) (p_aload_n 2 (k := 2) (by decide +kernel) rfl) ?_
  refine r_p (pc' := 284) (p_tload_n 0 (k := 0) (Nat.le_of_ble_eq_true rfl) (by decide +kernel) rfl) ?_
  refine r_p (pc' := 286) (p_iload 4 (i := 4) (by decide +kernel) rfl) ?_
  refine r_p (pc' := 287) (p_iconst (n := 1) (v := 1) (by decide +kernel) rfl) ?_
  refine r_p (pc' := 288) (p_iadd (by decide +kernel)) ?_
  refine r_sldx (by decide +kernel) hx fun v14 => ?_
  refine r_p (pc' := 290) (p_tload_n 0 (k := 0) (Nat.le_of_ble_eq_true rfl) (by decide +kernel) rfl) ?_
  refine r_p (pc' := 292) (p_iload 4 (i := 4) (by decide +kernel) rfl) ?_
  refine r_p (pc' := 293) (p_iconst (n := 2) (v := 2) (by decide +kernel) rfl) ?_
  refine r_p (pc' := 294) (p_iadd (by decide +kernel)) ?_
  refine r_sldx (by decide +kernel) hx fun v15 => ?_
  refine r_p (pc' := 296) (p_tload_n 0 (k := 0) (Nat.le_of_ble_eq_true rfl) (by decide +kernel) rfl) ?_
  refine r_p (pc' := 298) (p_iload 4 (i := 4) (by decide +kernel) rfl) ?_
  refine r_p (pc' := 299) (p_iconst (n := 3) (v := 3) (by decide +kernel) rfl) ?_
  refine r_p (pc' := 300) (p_iadd (by decide +kernel)) ?_
  refine r_sldx (by decide +kernel) hx fun v16 => ?_
  refine r_p (pc' := 302) (p_tload_n 0 (k := 0) (Nat.le_of_ble_eq_true rfl) (by decide +kernel) rfl) ?_
  refine r_p (pc' := 304) (p_iload 4 (i := 4) (by decide +kernel) rfl) ?_
  refine r_p (pc' := 305) (p_iconst (n := 4) (v := 4) (by decide +kernel) rfl) ?_
  refine r_p (pc' := 306) (p_iadd (by decide +kernel)) ?_
  refine r_sldx (by decide +kernel) hx fun v17 => ?_
  refine r_p (pc' := 308) (p_tload_n 0 (k := 0) (Nat.le_of_ble_eq_true rfl) (by decide +kernel) rfl) ?_
  refine r_p (pc' := 310) (p_iload 4 (i := 4) (by decide +kernel) rfl) ?_
  refine r_p (pc' := 311) (p_iconst (n := 5) (v := 5) (by decide +kernel) rfl) ?_
  refine r_p (pc' := 312) (p_iadd (by decide +kernel)) ?_
  refine r_sldx (by decide +kernel) hx fun v18 => ?_
  refine r_callVI mvL_139 (ctX12_feed v2 v14 v15 v16 v17 v18) (rcX12_feed v2 v14 v15 v16 v17 v18) ⟨_, _, rfl⟩ (as := [vi v14, vi v15, vi v16, vi v17, vi v18]) (st := [vi v13]) rfl rfl (by decide +kernel) rfl (Nat.le_of_ble_eq_true rfl) (Nat.le_of_ble_eq_true rfl) fun v19 s => ?_
  refine r_icmpeq (off := 2661) (tgt := 2977) (by decide +kernel) (by decide) (fun h20 => ?_) (fun h20 => ?_)
  · refine r_p (pc' := 2980) (p_iinc 4 (i := 4) (n := 6) (x := x) (v := x + 6) (lv' := [(4, vi (x + 6)), (0, vt 999), (1, vr v1), (2, vr v2), (3, vr v3)]) (by decide +kernel) rfl rfl (Nat.le_of_ble_eq_true rfl) rfl) ?_
    refine r_p (pc' := 23) (p_goto (off := -2957) (tgt := 23) (by decide +kernel) (by decide)) ?_
    refine r_sub (lv' := [(0, vt 999), (1, vr v1), (2, vr v2), (3, vr v3), (4, vi (x + 6))]) [1, 2, 3, 4, 0] rfl ?_
    exact hb (x + 6) _
  · refine r_p (pc' := 320) (p_iconst (n := 0) (v := 0) (by decide +kernel) rfl) ?_
    exact r_iret hk rfl _ rfl rfl (by decide +kernel)
set_option maxHeartbeats 4000000 in
set_option maxRecDepth 100000 in
theorem rmL_main_c1 (n0 : Nat) (xs : Nat → Int32) (v1 : Nat) (v2 : Nat) (v3 : Nat) (x : Int32) (v6 : Int32) (Y : DyA) (hx : wX (yW Y) = xs ∧ wL (yW Y) = n0) (K : Int32 ⊕ (Unit ⊕ Unit) → MM Int32) (hb : ∀ (x : Int32) (s : aS), Rr aL_main Y 23 [(0, vt 999), (1, vr v1), (2, vr v2), (3, vr v3), (4, vi x)] [] (mret (.inl x) : MM (Int32 ⊕ (Unit ⊕ Unit))) K rI s) (hk : K (.inr (.inr ())) = mret 0) (hk1 : K (.inr (.inl ())) = mret 1) (s : aS) : Rr aL_main Y 321 [(0, vt 999), (1, vr v1), (2, vr v2), (3, vr v3), (4, vi x)] [] (mL_main_c1 n0 xs v1 v2 x) K rI s := by
  unfold mL_main_c1
  refine r_p (pc' := 322) (p_aload_n 1 (k := 1) (by decide +kernel) rfl) ?_
  refine r_p (pc' := 323) (p_tload_n 0 (k := 0) (Nat.le_of_ble_eq_true rfl) (by decide +kernel) rfl) ?_
  refine r_p (pc' := 325) (p_iload 4 (i := 4) (by decide +kernel) rfl) ?_
  refine r_p (pc' := 326) (p_iconst (n := 1) (v := 1) (by decide +kernel) rfl) ?_
  refine r_p (pc' := 327) (p_iadd (by decide +kernel)) ?_
  refine r_sldx (by decide +kernel) hx fun v22 => ?_
  refine r_callVI mvL_140 (ctX11_end v1 v22) (rcX11_end v1 v22) ⟨_, _, rfl⟩ (as := [vi v22]) (st := []) rfl rfl (by decide +kernel) rfl (Nat.le_of_ble_eq_true rfl) (Nat.le_of_ble_eq_true rfl) fun v23 s => ?_
  refine r_p (pc' := 332) (p_aload_n 2 (k := 2) (by decide +kernel) rfl) ?_
  refine r_p (pc' := 333) (p_tload_n 0 (k := 0) (Nat.le_of_ble_eq_true rfl) (by decide +kernel) rfl) ?_
  refine r_p (pc' := 335) (p_iload 4 (i := 4) (by decide +kernel) rfl) ?_
  refine r_p (pc' := 336) (p_iconst (n := 1) (v := 1) (by decide +kernel) rfl) ?_
  refine r_p (pc' := 337) (p_iadd (by decide +kernel)) ?_
  refine r_sldx (by decide +kernel) hx fun v24 => ?_
  refine r_callVI mvL_144 (ctX12_end v2 v24) (rcX12_end v2 v24) ⟨_, _, rfl⟩ (as := [vi v24]) (st := [vi v23]) rfl rfl (by decide +kernel) rfl (Nat.le_of_ble_eq_true rfl) (Nat.le_of_ble_eq_true rfl) fun v25 s => ?_
  refine r_icmpeq (off := 2636) (tgt := 2977) (by decide +kernel) (by decide) (fun h26 => ?_) (fun h26 => ?_)
  · refine r_p (pc' := 2980) (p_iinc 4 (i := 4) (n := 6) (x := x) (v := x + 6) (lv' := [(4, vi (x + 6)), (0, vt 999), (1, vr v1), (2, vr v2), (3, vr v3)]) (by decide +kernel) rfl rfl (Nat.le_of_ble_eq_true rfl) rfl) ?_
    refine r_p (pc' := 23) (p_goto (off := -2957) (tgt := 23) (by decide +kernel) (by decide)) ?_
    refine r_sub (lv' := [(0, vt 999), (1, vr v1), (2, vr v2), (3, vr v3), (4, vi (x + 6))]) [1, 2, 3, 4, 0] rfl ?_
    exact hb (x + 6) _
  · refine r_p (pc' := 345) (p_iconst (n := 0) (v := 0) (by decide +kernel) rfl) ?_
    exact r_iret hk rfl _ rfl rfl (by decide +kernel)
set_option maxHeartbeats 4000000 in
set_option maxRecDepth 100000 in
theorem rmL_main_c2 (n0 : Nat) (xs : Nat → Int32) (v1 : Nat) (v2 : Nat) (v3 : Nat) (x : Int32) (v6 : Int32) (Y : DyA) (hx : wX (yW Y) = xs ∧ wL (yW Y) = n0) (K : Int32 ⊕ (Unit ⊕ Unit) → MM Int32) (hb : ∀ (x : Int32) (s : aS), Rr aL_main Y 23 [(0, vt 999), (1, vr v1), (2, vr v2), (3, vr v3), (4, vi x)] [] (mret (.inl x) : MM (Int32 ⊕ (Unit ⊕ Unit))) K rI s) (hk : K (.inr (.inr ())) = mret 0) (hk1 : K (.inr (.inl ())) = mret 1) (s : aS) : Rr aL_main Y 346 [(0, vt 999), (1, vr v1), (2, vr v2), (3, vr v3), (4, vi x)] [] (mL_main_c2 v1 v2 v3 x) K rI s := by
  unfold mL_main_c2
  refine r_p (pc' := 347) (p_aload_n 1 (k := 1) (by decide +kernel) rfl) ?_
  refine r_p (pc' := 348) (p_aload_n 3 (k := 3) (by decide +kernel) rfl) ?_
  refine r_callSH msL_145 (ctL_shop v1 v3) (as := [vr v1, vr v3]) (st := []) rfl rfl (by decide +kernel) rfl (Nat.le_of_ble_eq_true rfl) (Nat.le_of_ble_eq_true rfl) fun v28 s => ?_
  refine r_p (pc' := 353) (p_istore (i := 5) (lv' := [(5, vi v28), (0, vt 999), (1, vr v1), (2, vr v2), (3, vr v3), (4, vi x)]) (by decide +kernel) (Nat.le_of_ble_eq_true rfl) rfl) ?_
  refine r_p (pc' := 354) (p_aload_n 3 (k := 2) (by decide +kernel) rfl) ?_
  refine r_callVI mvL_150 (ctX12_shop v2) (rcX12_shop v2) ⟨_, _, rfl⟩ (as := []) (st := []) rfl rfl (by decide +kernel) rfl (Nat.le_of_ble_eq_true rfl) (Nat.le_of_ble_eq_true rfl) fun v29 s => ?_
  refine r_p (pc' := 359) (p_istore (i := 6) (lv' := [(6, vi v29), (5, vi v28), (0, vt 999), (1, vr v1), (2, vr v2), (3, vr v3), (4, vi x)]) (by decide +kernel) (Nat.le_of_ble_eq_true rfl) rfl) ?_
  refine r_p (pc' := 360) (p_aload_n 4 (k := 2) (by decide +kernel) rfl) ?_
  refine r_callVI mvL_151 (ctX12_thrown v2) (rcX12_thrown v2) ⟨_, _, rfl⟩ (as := []) (st := []) rfl rfl (by decide +kernel) rfl (Nat.le_of_ble_eq_true rfl) (Nat.le_of_ble_eq_true rfl) fun v30 s => ?_
  refine r_p (pc' := 365) (p_iload 1 (i := 5) (by decide +kernel) rfl) ?_
  refine r_icmpeq (off := 5) (tgt := 370) (by decide +kernel) (by decide) (fun h31 => ?_) (fun h31 => ?_)
  · refine r_p (pc' := 372) (p_iload 1 (i := 5) (by decide +kernel) rfl) ?_
    refine r_ifne (off := 15) (tgt := 387) (by decide +kernel) (by decide) (fun h32 => ?_) (fun h32 => ?_)
    · refine r_p (pc' := 376) (p_aload_n 5 (k := 3) (by decide +kernel) rfl) ?_
      refine r_p (pc' := 377) (p_iconst (n := 0) (v := 0) (by decide +kernel) rfl) ?_
      refine r_ldL (by decide +kernel) fun v33 => ?_
      refine r_p (pc' := 380) (p_iload 0 (i := 6) (by decide +kernel) rfl) ?_
      refine r_p (pc' := 381) (p_i2l (by decide +kernel)) ?_
      refine r_p (pc' := 382) (p_lcmp (by decide +kernel)) ?_
      refine r_ifeq (off := 5) (tgt := 387) (by decide +kernel) (by decide) (fun h34 => ?_) (fun h34 => ?_)
      · refine r_p (pc' := 2977) (p_goto (off := 2590) (tgt := 2977) (by decide +kernel) (by decide)) ?_
        refine r_p (pc' := 2980) (p_iinc 6 (i := 4) (n := 6) (x := x) (v := x + 6) (lv' := [(4, vi (x + 6)), (6, vi v29), (5, vi v28), (0, vt 999), (1, vr v1), (2, vr v2), (3, vr v3)]) (by decide +kernel) rfl rfl (Nat.le_of_ble_eq_true rfl) rfl) ?_
        refine r_p (pc' := 23) (p_goto (off := -2957) (tgt := 23) (by decide +kernel) (by decide)) ?_
        refine r_sub (lv' := [(0, vt 999), (1, vr v1), (2, vr v2), (3, vr v3), (4, vi (x + 6))]) [3, 4, 5, 6, 0] rfl ?_
        exact hb (x + 6) _
      · refine r_p (pc' := 386) (p_iconst (n := 0) (v := 0) (by decide +kernel) rfl) ?_
        exact r_iret hk rfl _ rfl rfl (by decide +kernel)
    · refine r_p (pc' := 2977) (p_goto (off := 2590) (tgt := 2977) (by decide +kernel) (by decide)) ?_
      refine r_p (pc' := 2980) (p_iinc 6 (i := 4) (n := 6) (x := x) (v := x + 6) (lv' := [(4, vi (x + 6)), (6, vi v29), (5, vi v28), (0, vt 999), (1, vr v1), (2, vr v2), (3, vr v3)]) (by decide +kernel) rfl rfl (Nat.le_of_ble_eq_true rfl) rfl) ?_
      refine r_p (pc' := 23) (p_goto (off := -2957) (tgt := 23) (by decide +kernel) (by decide)) ?_
      refine r_sub (lv' := [(0, vt 999), (1, vr v1), (2, vr v2), (3, vr v3), (4, vi (x + 6))]) [3, 4, 5, 6, 0] rfl ?_
      exact hb (x + 6) _
  · refine r_p (pc' := 369) (p_iconst (n := 0) (v := 0) (by decide +kernel) rfl) ?_
    exact r_iret hk rfl _ rfl rfl (by decide +kernel)
set_option maxHeartbeats 4000000 in
set_option maxRecDepth 100000 in
theorem rmL_main_c3 (n0 : Nat) (xs : Nat → Int32) (v1 : Nat) (v2 : Nat) (v3 : Nat) (x : Int32) (v6 : Int32) (Y : DyA) (hx : wX (yW Y) = xs ∧ wL (yW Y) = n0) (K : Int32 ⊕ (Unit ⊕ Unit) → MM Int32) (hb : ∀ (x : Int32) (s : aS), Rr aL_main Y 23 [(0, vt 999), (1, vr v1), (2, vr v2), (3, vr v3), (4, vi x)] [] (mret (.inl x) : MM (Int32 ⊕ (Unit ⊕ Unit))) K rI s) (hk : K (.inr (.inr ())) = mret 0) (hk1 : K (.inr (.inl ())) = mret 1) (s : aS) : Rr aL_main Y 390 [(0, vt 999), (1, vr v1), (2, vr v2), (3, vr v3), (4, vi x)] [] (mL_main_c3 v1 v2 v3 x) K rI s := by
  unfold mL_main_c3
  refine r_p (pc' := 391) (p_aload_n 1 (k := 1) (by decide +kernel) rfl) ?_
  refine r_p (pc' := 392) (p_aload_n 3 (k := 3) (by decide +kernel) rfl) ?_
  refine r_callSH msL_154 (ctL_law v1 v3) (as := [vr v1, vr v3]) (st := []) rfl rfl (by decide +kernel) rfl (Nat.le_of_ble_eq_true rfl) (Nat.le_of_ble_eq_true rfl) fun v36 s => ?_
  refine r_p (pc' := 397) (p_istore (i := 5) (lv' := [(5, vi v36), (0, vt 999), (1, vr v1), (2, vr v2), (3, vr v3), (4, vi x)]) (by decide +kernel) (Nat.le_of_ble_eq_true rfl) rfl) ?_
  refine r_p (pc' := 398) (p_aload_n 3 (k := 2) (by decide +kernel) rfl) ?_
  refine r_callVI mvL_156 (ctX12_law v2) (rcX12_law v2) ⟨_, _, rfl⟩ (as := []) (st := []) rfl rfl (by decide +kernel) rfl (Nat.le_of_ble_eq_true rfl) (Nat.le_of_ble_eq_true rfl) fun v37 s => ?_
  refine r_p (pc' := 403) (p_istore (i := 6) (lv' := [(6, vi v37), (5, vi v36), (0, vt 999), (1, vr v1), (2, vr v2), (3, vr v3), (4, vi x)]) (by decide +kernel) (Nat.le_of_ble_eq_true rfl) rfl) ?_
  refine r_p (pc' := 404) (p_aload_n 4 (k := 2) (by decide +kernel) rfl) ?_
  refine r_callVI mvL_151 (ctX12_thrown v2) (rcX12_thrown v2) ⟨_, _, rfl⟩ (as := []) (st := []) rfl rfl (by decide +kernel) rfl (Nat.le_of_ble_eq_true rfl) (Nat.le_of_ble_eq_true rfl) fun v38 s => ?_
  refine r_p (pc' := 409) (p_iload 1 (i := 5) (by decide +kernel) rfl) ?_
  refine r_icmpeq (off := 5) (tgt := 414) (by decide +kernel) (by decide) (fun h39 => ?_) (fun h39 => ?_)
  · refine r_p (pc' := 416) (p_iload 1 (i := 5) (by decide +kernel) rfl) ?_
    refine r_ifne (off := 15) (tgt := 431) (by decide +kernel) (by decide) (fun h40 => ?_) (fun h40 => ?_)
    · refine r_p (pc' := 420) (p_aload_n 5 (k := 3) (by decide +kernel) rfl) ?_
      refine r_p (pc' := 421) (p_iconst (n := 0) (v := 0) (by decide +kernel) rfl) ?_
      refine r_ldL (by decide +kernel) fun v41 => ?_
      refine r_p (pc' := 424) (p_iload 0 (i := 6) (by decide +kernel) rfl) ?_
      refine r_p (pc' := 425) (p_i2l (by decide +kernel)) ?_
      refine r_p (pc' := 426) (p_lcmp (by decide +kernel)) ?_
      refine r_ifeq (off := 5) (tgt := 431) (by decide +kernel) (by decide) (fun h42 => ?_) (fun h42 => ?_)
      · refine r_p (pc' := 2977) (p_goto (off := 2546) (tgt := 2977) (by decide +kernel) (by decide)) ?_
        refine r_p (pc' := 2980) (p_iinc 6 (i := 4) (n := 6) (x := x) (v := x + 6) (lv' := [(4, vi (x + 6)), (6, vi v37), (5, vi v36), (0, vt 999), (1, vr v1), (2, vr v2), (3, vr v3)]) (by decide +kernel) rfl rfl (Nat.le_of_ble_eq_true rfl) rfl) ?_
        refine r_p (pc' := 23) (p_goto (off := -2957) (tgt := 23) (by decide +kernel) (by decide)) ?_
        refine r_sub (lv' := [(0, vt 999), (1, vr v1), (2, vr v2), (3, vr v3), (4, vi (x + 6))]) [3, 4, 5, 6, 0] rfl ?_
        exact hb (x + 6) _
      · refine r_p (pc' := 430) (p_iconst (n := 0) (v := 0) (by decide +kernel) rfl) ?_
        exact r_iret hk rfl _ rfl rfl (by decide +kernel)
    · refine r_p (pc' := 2977) (p_goto (off := 2546) (tgt := 2977) (by decide +kernel) (by decide)) ?_
      refine r_p (pc' := 2980) (p_iinc 6 (i := 4) (n := 6) (x := x) (v := x + 6) (lv' := [(4, vi (x + 6)), (6, vi v37), (5, vi v36), (0, vt 999), (1, vr v1), (2, vr v2), (3, vr v3)]) (by decide +kernel) rfl rfl (Nat.le_of_ble_eq_true rfl) rfl) ?_
      refine r_p (pc' := 23) (p_goto (off := -2957) (tgt := 23) (by decide +kernel) (by decide)) ?_
      refine r_sub (lv' := [(0, vt 999), (1, vr v1), (2, vr v2), (3, vr v3), (4, vi (x + 6))]) [3, 4, 5, 6, 0] rfl ?_
      exact hb (x + 6) _
  · refine r_p (pc' := 413) (p_iconst (n := 0) (v := 0) (by decide +kernel) rfl) ?_
    exact r_iret hk rfl _ rfl rfl (by decide +kernel)
set_option maxHeartbeats 4000000 in
set_option maxRecDepth 100000 in
theorem rmL_main_c4 (n0 : Nat) (xs : Nat → Int32) (v1 : Nat) (v2 : Nat) (v3 : Nat) (x : Int32) (v6 : Int32) (Y : DyA) (hx : wX (yW Y) = xs ∧ wL (yW Y) = n0) (K : Int32 ⊕ (Unit ⊕ Unit) → MM Int32) (hb : ∀ (x : Int32) (s : aS), Rr aL_main Y 23 [(0, vt 999), (1, vr v1), (2, vr v2), (3, vr v3), (4, vi x)] [] (mret (.inl x) : MM (Int32 ⊕ (Unit ⊕ Unit))) K rI s) (hk : K (.inr (.inr ())) = mret 0) (hk1 : K (.inr (.inl ())) = mret 1) (s : aS) : Rr aL_main Y 434 [(0, vt 999), (1, vr v1), (2, vr v2), (3, vr v3), (4, vi x)] [] (mL_main_c4 v1 v2 x) K rI s := by
  unfold mL_main_c4
  refine r_p (pc' := 435) (p_aload_n 1 (k := 1) (by decide +kernel) rfl) ?_
  refine r_callVI mvL_157 (ctX11_fault v1) (rcX11_fault v1) ⟨_, _, rfl⟩ (as := []) (st := []) rfl rfl (by decide +kernel) rfl (Nat.le_of_ble_eq_true rfl) (Nat.le_of_ble_eq_true rfl) fun v44 s => ?_
  refine r_p (pc' := 439) (p_aload_n 2 (k := 2) (by decide +kernel) rfl) ?_
  refine r_callVI mvL_160 (ctX12_fault v2) (rcX12_fault v2) ⟨_, _, rfl⟩ (as := []) (st := [vi v44]) rfl rfl (by decide +kernel) rfl (Nat.le_of_ble_eq_true rfl) (Nat.le_of_ble_eq_true rfl) fun v45 s => ?_
  refine r_icmpeq (off := 2535) (tgt := 2977) (by decide +kernel) (by decide) (fun h46 => ?_) (fun h46 => ?_)
  · refine r_p (pc' := 2980) (p_iinc 4 (i := 4) (n := 6) (x := x) (v := x + 6) (lv' := [(4, vi (x + 6)), (0, vt 999), (1, vr v1), (2, vr v2), (3, vr v3)]) (by decide +kernel) rfl rfl (Nat.le_of_ble_eq_true rfl) rfl) ?_
    refine r_p (pc' := 23) (p_goto (off := -2957) (tgt := 23) (by decide +kernel) (by decide)) ?_
    refine r_sub (lv' := [(0, vt 999), (1, vr v1), (2, vr v2), (3, vr v3), (4, vi (x + 6))]) [1, 2, 3, 4, 0] rfl ?_
    exact hb (x + 6) _
  · refine r_p (pc' := 446) (p_iconst (n := 0) (v := 0) (by decide +kernel) rfl) ?_
    exact r_iret hk rfl _ rfl rfl (by decide +kernel)
set_option maxHeartbeats 4000000 in
set_option maxRecDepth 100000 in
theorem rmL_main_c5 (n0 : Nat) (xs : Nat → Int32) (v1 : Nat) (v2 : Nat) (v3 : Nat) (x : Int32) (v6 : Int32) (Y : DyA) (hx : wX (yW Y) = xs ∧ wL (yW Y) = n0) (K : Int32 ⊕ (Unit ⊕ Unit) → MM Int32) (hb : ∀ (x : Int32) (s : aS), Rr aL_main Y 23 [(0, vt 999), (1, vr v1), (2, vr v2), (3, vr v3), (4, vi x)] [] (mret (.inl x) : MM (Int32 ⊕ (Unit ⊕ Unit))) K rI s) (hk : K (.inr (.inr ())) = mret 0) (hk1 : K (.inr (.inl ())) = mret 1) (s : aS) : Rr aL_main Y 447 [(0, vt 999), (1, vr v1), (2, vr v2), (3, vr v3), (4, vi x)] [] (mL_main_c5 n0 xs v1 v2 v3 x) K rI s := by
  unfold mL_main_c5
  refine r_p (pc' := 448) (p_aload_n 1 (k := 1) (by decide +kernel) rfl) ?_
  refine r_p (pc' := 449) (p_tload_n 0 (k := 0) (Nat.le_of_ble_eq_true rfl) (by decide +kernel) rfl) ?_
  refine r_p (pc' := 451) (p_iload 4 (i := 4) (by decide +kernel) rfl) ?_
  refine r_p (pc' := 452) (p_iconst (n := 1) (v := 1) (by decide +kernel) rfl) ?_
  refine r_p (pc' := 453) (p_iadd (by decide +kernel)) ?_
  refine r_sldx (by decide +kernel) hx fun v48 => ?_
  refine r_p (pc' := 455) (p_tload_n 0 (k := 0) (Nat.le_of_ble_eq_true rfl) (by decide +kernel) rfl) ?_
  refine r_p (pc' := 457) (p_iload 4 (i := 4) (by decide +kernel) rfl) ?_
  refine r_p (pc' := 458) (p_iconst (n := 2) (v := 2) (by decide +kernel) rfl) ?_
  refine r_p (pc' := 459) (p_iadd (by decide +kernel)) ?_
  refine r_sldx (by decide +kernel) hx fun v49 => ?_
  refine r_p (pc' := 461) (p_aload_n 3 (k := 3) (by decide +kernel) rfl) ?_
  refine r_callSH msL_161 (ctL_part v1 v48 v49 v3) (as := [vr v1, vi v48, vi v49, vr v3]) (st := []) rfl rfl (by decide +kernel) rfl (Nat.le_of_ble_eq_true rfl) (Nat.le_of_ble_eq_true rfl) fun v50 s => ?_
  refine r_p (pc' := 466) (p_istore (i := 5) (lv' := [(5, vi v50), (0, vt 999), (1, vr v1), (2, vr v2), (3, vr v3), (4, vi x)]) (by decide +kernel) (Nat.le_of_ble_eq_true rfl) rfl) ?_
  refine r_p (pc' := 467) (p_aload_n 3 (k := 2) (by decide +kernel) rfl) ?_
  refine r_p (pc' := 468) (p_tload_n 1 (k := 0) (Nat.le_of_ble_eq_true rfl) (by decide +kernel) rfl) ?_
  refine r_p (pc' := 470) (p_iload 5 (i := 4) (by decide +kernel) rfl) ?_
  refine r_p (pc' := 471) (p_iconst (n := 1) (v := 1) (by decide +kernel) rfl) ?_
  refine r_p (pc' := 472) (p_iadd (by decide +kernel)) ?_
  refine r_sldx (by decide +kernel) hx fun v51 => ?_
  refine r_p (pc' := 474) (p_tload_n 1 (k := 0) (Nat.le_of_ble_eq_true rfl) (by decide +kernel) rfl) ?_
  refine r_p (pc' := 476) (p_iload 5 (i := 4) (by decide +kernel) rfl) ?_
  refine r_p (pc' := 477) (p_iconst (n := 2) (v := 2) (by decide +kernel) rfl) ?_
  refine r_p (pc' := 478) (p_iadd (by decide +kernel)) ?_
  refine r_sldx (by decide +kernel) hx fun v52 => ?_
  refine r_callVI mvL_164 (ctX12_part v2 v51 v52) (rcX12_part v2 v51 v52) ⟨_, _, rfl⟩ (as := [vi v51, vi v52]) (st := []) rfl rfl (by decide +kernel) rfl (Nat.le_of_ble_eq_true rfl) (Nat.le_of_ble_eq_true rfl) fun v53 s => ?_
  refine r_p (pc' := 484) (p_istore (i := 6) (lv' := [(6, vi v53), (5, vi v50), (0, vt 999), (1, vr v1), (2, vr v2), (3, vr v3), (4, vi x)]) (by decide +kernel) (Nat.le_of_ble_eq_true rfl) rfl) ?_
  refine r_p (pc' := 485) (p_aload_n 4 (k := 2) (by decide +kernel) rfl) ?_
  refine r_callVI mvL_151 (ctX12_thrown v2) (rcX12_thrown v2) ⟨_, _, rfl⟩ (as := []) (st := []) rfl rfl (by decide +kernel) rfl (Nat.le_of_ble_eq_true rfl) (Nat.le_of_ble_eq_true rfl) fun v54 s => ?_
  refine r_p (pc' := 490) (p_iload 1 (i := 5) (by decide +kernel) rfl) ?_
  refine r_icmpeq (off := 5) (tgt := 495) (by decide +kernel) (by decide) (fun h55 => ?_) (fun h55 => ?_)
  · refine r_p (pc' := 497) (p_iload 1 (i := 5) (by decide +kernel) rfl) ?_
    refine r_ifne (off := 15) (tgt := 512) (by decide +kernel) (by decide) (fun h56 => ?_) (fun h56 => ?_)
    · refine r_p (pc' := 501) (p_aload_n 5 (k := 3) (by decide +kernel) rfl) ?_
      refine r_p (pc' := 502) (p_iconst (n := 0) (v := 0) (by decide +kernel) rfl) ?_
      refine r_ldL (by decide +kernel) fun v57 => ?_
      refine r_p (pc' := 505) (p_iload 0 (i := 6) (by decide +kernel) rfl) ?_
      refine r_p (pc' := 506) (p_i2l (by decide +kernel)) ?_
      refine r_p (pc' := 507) (p_lcmp (by decide +kernel)) ?_
      refine r_ifeq (off := 5) (tgt := 512) (by decide +kernel) (by decide) (fun h58 => ?_) (fun h58 => ?_)
      · refine r_p (pc' := 2977) (p_goto (off := 2465) (tgt := 2977) (by decide +kernel) (by decide)) ?_
        refine r_p (pc' := 2980) (p_iinc 6 (i := 4) (n := 6) (x := x) (v := x + 6) (lv' := [(4, vi (x + 6)), (6, vi v53), (5, vi v50), (0, vt 999), (1, vr v1), (2, vr v2), (3, vr v3)]) (by decide +kernel) rfl rfl (Nat.le_of_ble_eq_true rfl) rfl) ?_
        refine r_p (pc' := 23) (p_goto (off := -2957) (tgt := 23) (by decide +kernel) (by decide)) ?_
        refine r_sub (lv' := [(0, vt 999), (1, vr v1), (2, vr v2), (3, vr v3), (4, vi (x + 6))]) [3, 4, 5, 6, 0] rfl ?_
        exact hb (x + 6) _
      · refine r_p (pc' := 511) (p_iconst (n := 0) (v := 0) (by decide +kernel) rfl) ?_
        exact r_iret hk rfl _ rfl rfl (by decide +kernel)
    · refine r_p (pc' := 2977) (p_goto (off := 2465) (tgt := 2977) (by decide +kernel) (by decide)) ?_
      refine r_p (pc' := 2980) (p_iinc 6 (i := 4) (n := 6) (x := x) (v := x + 6) (lv' := [(4, vi (x + 6)), (6, vi v53), (5, vi v50), (0, vt 999), (1, vr v1), (2, vr v2), (3, vr v3)]) (by decide +kernel) rfl rfl (Nat.le_of_ble_eq_true rfl) rfl) ?_
      refine r_p (pc' := 23) (p_goto (off := -2957) (tgt := 23) (by decide +kernel) (by decide)) ?_
      refine r_sub (lv' := [(0, vt 999), (1, vr v1), (2, vr v2), (3, vr v3), (4, vi (x + 6))]) [3, 4, 5, 6, 0] rfl ?_
      exact hb (x + 6) _
  · refine r_p (pc' := 494) (p_iconst (n := 0) (v := 0) (by decide +kernel) rfl) ?_
    exact r_iret hk rfl _ rfl rfl (by decide +kernel)
set_option maxHeartbeats 4000000 in
set_option maxRecDepth 100000 in
theorem rmL_main_c6 (n0 : Nat) (xs : Nat → Int32) (v1 : Nat) (v2 : Nat) (v3 : Nat) (x : Int32) (v6 : Int32) (Y : DyA) (hx : wX (yW Y) = xs ∧ wL (yW Y) = n0) (K : Int32 ⊕ (Unit ⊕ Unit) → MM Int32) (hb : ∀ (x : Int32) (s : aS), Rr aL_main Y 23 [(0, vt 999), (1, vr v1), (2, vr v2), (3, vr v3), (4, vi x)] [] (mret (.inl x) : MM (Int32 ⊕ (Unit ⊕ Unit))) K rI s) (hk : K (.inr (.inr ())) = mret 0) (hk1 : K (.inr (.inl ())) = mret 1) (s : aS) : Rr aL_main Y 515 [(0, vt 999), (1, vr v1), (2, vr v2), (3, vr v3), (4, vi x)] [] (mL_main_c6 n0 xs v1 v2 v3 x) K rI s := by
  unfold mL_main_c6
  refine r_p (pc' := 516) (p_aload_n 1 (k := 1) (by decide +kernel) rfl) ?_
  refine r_p (pc' := 517) (p_tload_n 0 (k := 0) (Nat.le_of_ble_eq_true rfl) (by decide +kernel) rfl) ?_
  refine r_p (pc' := 519) (p_iload 4 (i := 4) (by decide +kernel) rfl) ?_
  refine r_p (pc' := 520) (p_iconst (n := 1) (v := 1) (by decide +kernel) rfl) ?_
  refine r_p (pc' := 521) (p_iadd (by decide +kernel)) ?_
  refine r_sldx (by decide +kernel) hx fun v60 => ?_
  refine r_p (pc' := 523) (p_tload_n 0 (k := 0) (Nat.le_of_ble_eq_true rfl) (by decide +kernel) rfl) ?_
  refine r_p (pc' := 525) (p_iload 4 (i := 4) (by decide +kernel) rfl) ?_
  refine r_p (pc' := 526) (p_iconst (n := 2) (v := 2) (by decide +kernel) rfl) ?_
  refine r_p (pc' := 527) (p_iadd (by decide +kernel)) ?_
  refine r_sldx (by decide +kernel) hx fun v61 => ?_
  refine r_p (pc' := 529) (p_aload_n 3 (k := 3) (by decide +kernel) rfl) ?_
  refine r_callSH msL_165 (ctL_tool v1 v60 v61 v3) (as := [vr v1, vi v60, vi v61, vr v3]) (st := []) rfl rfl (by decide +kernel) rfl (Nat.le_of_ble_eq_true rfl) (Nat.le_of_ble_eq_true rfl) fun v62 s => ?_
  refine r_p (pc' := 534) (p_istore (i := 5) (lv' := [(5, vi v62), (0, vt 999), (1, vr v1), (2, vr v2), (3, vr v3), (4, vi x)]) (by decide +kernel) (Nat.le_of_ble_eq_true rfl) rfl) ?_
  refine r_p (pc' := 535) (p_aload_n 3 (k := 2) (by decide +kernel) rfl) ?_
  refine r_p (pc' := 536) (p_tload_n 1 (k := 0) (Nat.le_of_ble_eq_true rfl) (by decide +kernel) rfl) ?_
  refine r_p (pc' := 538) (p_iload 5 (i := 4) (by decide +kernel) rfl) ?_
  refine r_p (pc' := 539) (p_iconst (n := 1) (v := 1) (by decide +kernel) rfl) ?_
  refine r_p (pc' := 540) (p_iadd (by decide +kernel)) ?_
  refine r_sldx (by decide +kernel) hx fun v63 => ?_
  refine r_p (pc' := 542) (p_tload_n 1 (k := 0) (Nat.le_of_ble_eq_true rfl) (by decide +kernel) rfl) ?_
  refine r_p (pc' := 544) (p_iload 5 (i := 4) (by decide +kernel) rfl) ?_
  refine r_p (pc' := 545) (p_iconst (n := 2) (v := 2) (by decide +kernel) rfl) ?_
  refine r_p (pc' := 546) (p_iadd (by decide +kernel)) ?_
  refine r_sldx (by decide +kernel) hx fun v64 => ?_
  refine r_callVI mvL_167 (ctX12_tool v2 v63 v64) (rcX12_tool v2 v63 v64) ⟨_, _, rfl⟩ (as := [vi v63, vi v64]) (st := []) rfl rfl (by decide +kernel) rfl (Nat.le_of_ble_eq_true rfl) (Nat.le_of_ble_eq_true rfl) fun v65 s => ?_
  refine r_p (pc' := 552) (p_istore (i := 6) (lv' := [(6, vi v65), (5, vi v62), (0, vt 999), (1, vr v1), (2, vr v2), (3, vr v3), (4, vi x)]) (by decide +kernel) (Nat.le_of_ble_eq_true rfl) rfl) ?_
  refine r_p (pc' := 553) (p_aload_n 4 (k := 2) (by decide +kernel) rfl) ?_
  refine r_callVI mvL_151 (ctX12_thrown v2) (rcX12_thrown v2) ⟨_, _, rfl⟩ (as := []) (st := []) rfl rfl (by decide +kernel) rfl (Nat.le_of_ble_eq_true rfl) (Nat.le_of_ble_eq_true rfl) fun v66 s => ?_
  refine r_p (pc' := 558) (p_iload 1 (i := 5) (by decide +kernel) rfl) ?_
  refine r_icmpeq (off := 5) (tgt := 563) (by decide +kernel) (by decide) (fun h67 => ?_) (fun h67 => ?_)
  · refine r_p (pc' := 565) (p_iload 1 (i := 5) (by decide +kernel) rfl) ?_
    refine r_ifne (off := 15) (tgt := 580) (by decide +kernel) (by decide) (fun h68 => ?_) (fun h68 => ?_)
    · refine r_p (pc' := 569) (p_aload_n 5 (k := 3) (by decide +kernel) rfl) ?_
      refine r_p (pc' := 570) (p_iconst (n := 0) (v := 0) (by decide +kernel) rfl) ?_
      refine r_ldL (by decide +kernel) fun v69 => ?_
      refine r_p (pc' := 573) (p_iload 0 (i := 6) (by decide +kernel) rfl) ?_
      refine r_p (pc' := 574) (p_i2l (by decide +kernel)) ?_
      refine r_p (pc' := 575) (p_lcmp (by decide +kernel)) ?_
      refine r_ifeq (off := 5) (tgt := 580) (by decide +kernel) (by decide) (fun h70 => ?_) (fun h70 => ?_)
      · refine r_p (pc' := 2977) (p_goto (off := 2397) (tgt := 2977) (by decide +kernel) (by decide)) ?_
        refine r_p (pc' := 2980) (p_iinc 6 (i := 4) (n := 6) (x := x) (v := x + 6) (lv' := [(4, vi (x + 6)), (6, vi v65), (5, vi v62), (0, vt 999), (1, vr v1), (2, vr v2), (3, vr v3)]) (by decide +kernel) rfl rfl (Nat.le_of_ble_eq_true rfl) rfl) ?_
        refine r_p (pc' := 23) (p_goto (off := -2957) (tgt := 23) (by decide +kernel) (by decide)) ?_
        refine r_sub (lv' := [(0, vt 999), (1, vr v1), (2, vr v2), (3, vr v3), (4, vi (x + 6))]) [3, 4, 5, 6, 0] rfl ?_
        exact hb (x + 6) _
      · refine r_p (pc' := 579) (p_iconst (n := 0) (v := 0) (by decide +kernel) rfl) ?_
        exact r_iret hk rfl _ rfl rfl (by decide +kernel)
    · refine r_p (pc' := 2977) (p_goto (off := 2397) (tgt := 2977) (by decide +kernel) (by decide)) ?_
      refine r_p (pc' := 2980) (p_iinc 6 (i := 4) (n := 6) (x := x) (v := x + 6) (lv' := [(4, vi (x + 6)), (6, vi v65), (5, vi v62), (0, vt 999), (1, vr v1), (2, vr v2), (3, vr v3)]) (by decide +kernel) rfl rfl (Nat.le_of_ble_eq_true rfl) rfl) ?_
      refine r_p (pc' := 23) (p_goto (off := -2957) (tgt := 23) (by decide +kernel) (by decide)) ?_
      refine r_sub (lv' := [(0, vt 999), (1, vr v1), (2, vr v2), (3, vr v3), (4, vi (x + 6))]) [3, 4, 5, 6, 0] rfl ?_
      exact hb (x + 6) _
  · refine r_p (pc' := 562) (p_iconst (n := 0) (v := 0) (by decide +kernel) rfl) ?_
    exact r_iret hk rfl _ rfl rfl (by decide +kernel)
set_option maxHeartbeats 4000000 in
set_option maxRecDepth 100000 in
theorem rmL_main_c7 (n0 : Nat) (xs : Nat → Int32) (v1 : Nat) (v2 : Nat) (v3 : Nat) (x : Int32) (v6 : Int32) (Y : DyA) (hx : wX (yW Y) = xs ∧ wL (yW Y) = n0) (K : Int32 ⊕ (Unit ⊕ Unit) → MM Int32) (hb : ∀ (x : Int32) (s : aS), Rr aL_main Y 23 [(0, vt 999), (1, vr v1), (2, vr v2), (3, vr v3), (4, vi x)] [] (mret (.inl x) : MM (Int32 ⊕ (Unit ⊕ Unit))) K rI s) (hk : K (.inr (.inr ())) = mret 0) (hk1 : K (.inr (.inl ())) = mret 1) (s : aS) : Rr aL_main Y 583 [(0, vt 999), (1, vr v1), (2, vr v2), (3, vr v3), (4, vi x)] [] (mL_main_c7 n0 xs v1 v2 v3 x) K rI s := by
  unfold mL_main_c7
  refine r_p (pc' := 584) (p_aload_n 1 (k := 1) (by decide +kernel) rfl) ?_
  refine r_p (pc' := 585) (p_tload_n 0 (k := 0) (Nat.le_of_ble_eq_true rfl) (by decide +kernel) rfl) ?_
  refine r_p (pc' := 587) (p_iload 4 (i := 4) (by decide +kernel) rfl) ?_
  refine r_p (pc' := 588) (p_iconst (n := 1) (v := 1) (by decide +kernel) rfl) ?_
  refine r_p (pc' := 589) (p_iadd (by decide +kernel)) ?_
  refine r_sldx (by decide +kernel) hx fun v72 => ?_
  refine r_p (pc' := 591) (p_tload_n 0 (k := 0) (Nat.le_of_ble_eq_true rfl) (by decide +kernel) rfl) ?_
  refine r_p (pc' := 593) (p_iload 4 (i := 4) (by decide +kernel) rfl) ?_
  refine r_p (pc' := 594) (p_iconst (n := 2) (v := 2) (by decide +kernel) rfl) ?_
  refine r_p (pc' := 595) (p_iadd (by decide +kernel)) ?_
  refine r_sldx (by decide +kernel) hx fun v73 => ?_
  refine r_join 604 (fun (x75 : Int32) => [(0, vt 999), (1, vr v1), (2, vr v2), (3, vr v3), (4, vi x)]) (fun (x75 : Int32) => [vi x75, vi v72, vr v1]) (fun x75 s => ?_) (fun K76 hj77 => ?_)
  · refine r_p (pc' := 605) (p_aload_n 3 (k := 3) (by decide +kernel) rfl) ?_
    refine r_callSH msL_168 (ctL_master v1 v72 x75 v3) (as := [vr v1, vi v72, vi x75, vr v3]) (st := []) rfl rfl (by decide +kernel) rfl (Nat.le_of_ble_eq_true rfl) (Nat.le_of_ble_eq_true rfl) fun v78 s => ?_
    refine r_p (pc' := 610) (p_istore (i := 5) (lv' := [(5, vi v78), (0, vt 999), (1, vr v1), (2, vr v2), (3, vr v3), (4, vi x)]) (by decide +kernel) (Nat.le_of_ble_eq_true rfl) rfl) ?_
    refine r_p (pc' := 611) (p_aload_n 3 (k := 2) (by decide +kernel) rfl) ?_
    refine r_p (pc' := 612) (p_tload_n 1 (k := 0) (Nat.le_of_ble_eq_true rfl) (by decide +kernel) rfl) ?_
    refine r_p (pc' := 614) (p_iload 5 (i := 4) (by decide +kernel) rfl) ?_
    refine r_p (pc' := 615) (p_iconst (n := 1) (v := 1) (by decide +kernel) rfl) ?_
    refine r_p (pc' := 616) (p_iadd (by decide +kernel)) ?_
    refine r_sldx (by decide +kernel) hx fun v79 => ?_
    refine r_p (pc' := 618) (p_tload_n 1 (k := 0) (Nat.le_of_ble_eq_true rfl) (by decide +kernel) rfl) ?_
    refine r_p (pc' := 620) (p_iload 5 (i := 4) (by decide +kernel) rfl) ?_
    refine r_p (pc' := 621) (p_iconst (n := 2) (v := 2) (by decide +kernel) rfl) ?_
    refine r_p (pc' := 622) (p_iadd (by decide +kernel)) ?_
    refine r_sldx (by decide +kernel) hx fun v80 => ?_
    refine r_join 631 (fun (x82 : Int32) => [(0, vt 999), (1, vr v1), (2, vr v2), (3, vr v3), (4, vi x), (5, vi v78)]) (fun (x82 : Int32) => [vi x82, vi v79, vr v2]) (fun x82 s => ?_) (fun K83 hj84 => ?_)
    · refine r_callVI mvL_171 (ctX12_master v2 v79 x82) (rcX12_master v2 v79 x82) ⟨_, _, rfl⟩ (as := [vi v79, vi x82]) (st := []) rfl rfl (by decide +kernel) rfl (Nat.le_of_ble_eq_true rfl) (Nat.le_of_ble_eq_true rfl) fun v85 s => ?_
      refine r_p (pc' := 636) (p_istore (i := 6) (lv' := [(6, vi v85), (0, vt 999), (1, vr v1), (2, vr v2), (3, vr v3), (4, vi x), (5, vi v78)]) (by decide +kernel) (Nat.le_of_ble_eq_true rfl) rfl) ?_
      refine r_p (pc' := 637) (p_aload_n 3 (k := 2) (by decide +kernel) rfl) ?_
      refine r_callVI mvL_151 (ctX12_thrown v2) (rcX12_thrown v2) ⟨_, _, rfl⟩ (as := []) (st := []) rfl rfl (by decide +kernel) rfl (Nat.le_of_ble_eq_true rfl) (Nat.le_of_ble_eq_true rfl) fun v86 s => ?_
      refine r_p (pc' := 642) (p_iload 6 (i := 5) (by decide +kernel) rfl) ?_
      refine r_icmpeq (off := 5) (tgt := 647) (by decide +kernel) (by decide) (fun h87 => ?_) (fun h87 => ?_)
      · refine r_p (pc' := 649) (p_iload 6 (i := 5) (by decide +kernel) rfl) ?_
        refine r_ifne (off := 15) (tgt := 664) (by decide +kernel) (by decide) (fun h88 => ?_) (fun h88 => ?_)
        · refine r_p (pc' := 653) (p_aload_n 4 (k := 3) (by decide +kernel) rfl) ?_
          refine r_p (pc' := 654) (p_iconst (n := 0) (v := 0) (by decide +kernel) rfl) ?_
          refine r_ldL (by decide +kernel) fun v89 => ?_
          refine r_p (pc' := 657) (p_iload 0 (i := 6) (by decide +kernel) rfl) ?_
          refine r_p (pc' := 658) (p_i2l (by decide +kernel)) ?_
          refine r_p (pc' := 659) (p_lcmp (by decide +kernel)) ?_
          refine r_ifeq (off := 5) (tgt := 664) (by decide +kernel) (by decide) (fun h90 => ?_) (fun h90 => ?_)
          · refine r_p (pc' := 2977) (p_goto (off := 2313) (tgt := 2977) (by decide +kernel) (by decide)) ?_
            refine r_p (pc' := 2980) (p_iinc 5 (i := 4) (n := 6) (x := x) (v := x + 6) (lv' := [(4, vi (x + 6)), (6, vi v85), (0, vt 999), (1, vr v1), (2, vr v2), (3, vr v3), (5, vi v78)]) (by decide +kernel) rfl rfl (Nat.le_of_ble_eq_true rfl) rfl) ?_
            refine r_p (pc' := 23) (p_goto (off := -2957) (tgt := 23) (by decide +kernel) (by decide)) ?_
            refine r_sub (lv' := [(0, vt 999), (1, vr v1), (2, vr v2), (3, vr v3), (4, vi (x + 6))]) [2, 3, 4, 5, 0] rfl ?_
            exact hb (x + 6) _
          · refine r_p (pc' := 663) (p_iconst (n := 0) (v := 0) (by decide +kernel) rfl) ?_
            exact r_iret hk rfl _ rfl rfl (by decide +kernel)
        · refine r_p (pc' := 2977) (p_goto (off := 2313) (tgt := 2977) (by decide +kernel) (by decide)) ?_
          refine r_p (pc' := 2980) (p_iinc 5 (i := 4) (n := 6) (x := x) (v := x + 6) (lv' := [(4, vi (x + 6)), (6, vi v85), (0, vt 999), (1, vr v1), (2, vr v2), (3, vr v3), (5, vi v78)]) (by decide +kernel) rfl rfl (Nat.le_of_ble_eq_true rfl) rfl) ?_
          refine r_p (pc' := 23) (p_goto (off := -2957) (tgt := 23) (by decide +kernel) (by decide)) ?_
          refine r_sub (lv' := [(0, vt 999), (1, vr v1), (2, vr v2), (3, vr v3), (4, vi (x + 6))]) [2, 3, 4, 5, 0] rfl ?_
          exact hb (x + 6) _
      · refine r_p (pc' := 646) (p_iconst (n := 0) (v := 0) (by decide +kernel) rfl) ?_
        exact r_iret hk rfl _ rfl rfl (by decide +kernel)
    · refine r_ifeq (off := 7) (tgt := 630) (by decide +kernel) (by decide) (fun h81 => ?_) (fun h81 => ?_)
      · refine r_p (pc' := 631) (p_iconst (n := 0) (v := 0) (by decide +kernel) rfl) ?_
        refine r_sub (lv' := [(0, vt 999), (1, vr v1), (2, vr v2), (3, vr v3), (4, vi x), (5, vi v78)]) [1, 2, 3, 4, 5, 0] rfl ?_
        exact hj84 0 _
      · refine r_p (pc' := 627) (p_iconst (n := 1) (v := 1) (by decide +kernel) rfl) ?_
        refine r_p (pc' := 631) (p_goto (off := 4) (tgt := 631) (by decide +kernel) (by decide)) ?_
        refine r_sub (lv' := [(0, vt 999), (1, vr v1), (2, vr v2), (3, vr v3), (4, vi x), (5, vi v78)]) [1, 2, 3, 4, 5, 0] rfl ?_
        exact hj84 1 _
  · refine r_ifeq (off := 7) (tgt := 603) (by decide +kernel) (by decide) (fun h74 => ?_) (fun h74 => ?_)
    · refine r_p (pc' := 604) (p_iconst (n := 0) (v := 0) (by decide +kernel) rfl) ?_
      exact hj77 0 _
    · refine r_p (pc' := 600) (p_iconst (n := 1) (v := 1) (by decide +kernel) rfl) ?_
      refine r_p (pc' := 604) (p_goto (off := 4) (tgt := 604) (by decide +kernel) (by decide)) ?_
      exact hj77 1 _
set_option maxHeartbeats 4000000 in
set_option maxRecDepth 100000 in
theorem rmL_main_c8 (n0 : Nat) (xs : Nat → Int32) (v1 : Nat) (v2 : Nat) (v3 : Nat) (x : Int32) (v6 : Int32) (Y : DyA) (hx : wX (yW Y) = xs ∧ wL (yW Y) = n0) (K : Int32 ⊕ (Unit ⊕ Unit) → MM Int32) (hb : ∀ (x : Int32) (s : aS), Rr aL_main Y 23 [(0, vt 999), (1, vr v1), (2, vr v2), (3, vr v3), (4, vi x)] [] (mret (.inl x) : MM (Int32 ⊕ (Unit ⊕ Unit))) K rI s) (hk : K (.inr (.inr ())) = mret 0) (hk1 : K (.inr (.inl ())) = mret 1) (s : aS) : Rr aL_main Y 667 [(0, vt 999), (1, vr v1), (2, vr v2), (3, vr v3), (4, vi x)] [] (mL_main_c8 n0 xs v1 v2 v3 x) K rI s := by
  unfold mL_main_c8
  refine r_p (pc' := 668) (p_aload_n 1 (k := 1) (by decide +kernel) rfl) ?_
  refine r_p (pc' := 669) (p_tload_n 0 (k := 0) (Nat.le_of_ble_eq_true rfl) (by decide +kernel) rfl) ?_
  refine r_p (pc' := 671) (p_iload 4 (i := 4) (by decide +kernel) rfl) ?_
  refine r_p (pc' := 672) (p_iconst (n := 1) (v := 1) (by decide +kernel) rfl) ?_
  refine r_p (pc' := 673) (p_iadd (by decide +kernel)) ?_
  refine r_sldx (by decide +kernel) hx fun v92 => ?_
  refine r_p (pc' := 675) (p_tload_n 0 (k := 0) (Nat.le_of_ble_eq_true rfl) (by decide +kernel) rfl) ?_
  refine r_p (pc' := 677) (p_iload 4 (i := 4) (by decide +kernel) rfl) ?_
  refine r_p (pc' := 678) (p_iconst (n := 2) (v := 2) (by decide +kernel) rfl) ?_
  refine r_p (pc' := 679) (p_iadd (by decide +kernel)) ?_
  refine r_sldx (by decide +kernel) hx fun v93 => ?_
  refine r_p (pc' := 681) (p_aload_n 3 (k := 3) (by decide +kernel) rfl) ?_
  refine r_callSH msL_172 (ctL_rule v1 v92 v93 v3) (as := [vr v1, vi v92, vi v93, vr v3]) (st := []) rfl rfl (by decide +kernel) rfl (Nat.le_of_ble_eq_true rfl) (Nat.le_of_ble_eq_true rfl) fun v94 s => ?_
  refine r_p (pc' := 686) (p_istore (i := 5) (lv' := [(5, vi v94), (0, vt 999), (1, vr v1), (2, vr v2), (3, vr v3), (4, vi x)]) (by decide +kernel) (Nat.le_of_ble_eq_true rfl) rfl) ?_
  refine r_p (pc' := 687) (p_aload_n 3 (k := 2) (by decide +kernel) rfl) ?_
  refine r_p (pc' := 688) (p_tload_n 1 (k := 0) (Nat.le_of_ble_eq_true rfl) (by decide +kernel) rfl) ?_
  refine r_p (pc' := 690) (p_iload 5 (i := 4) (by decide +kernel) rfl) ?_
  refine r_p (pc' := 691) (p_iconst (n := 1) (v := 1) (by decide +kernel) rfl) ?_
  refine r_p (pc' := 692) (p_iadd (by decide +kernel)) ?_
  refine r_sldx (by decide +kernel) hx fun v95 => ?_
  refine r_p (pc' := 694) (p_tload_n 1 (k := 0) (Nat.le_of_ble_eq_true rfl) (by decide +kernel) rfl) ?_
  refine r_p (pc' := 696) (p_iload 5 (i := 4) (by decide +kernel) rfl) ?_
  refine r_p (pc' := 697) (p_iconst (n := 2) (v := 2) (by decide +kernel) rfl) ?_
  refine r_p (pc' := 698) (p_iadd (by decide +kernel)) ?_
  refine r_sldx (by decide +kernel) hx fun v96 => ?_
  refine r_callVI mvL_174 (ctX12_rule v2 v95 v96) (rcX12_rule v2 v95 v96) ⟨_, _, rfl⟩ (as := [vi v95, vi v96]) (st := []) rfl rfl (by decide +kernel) rfl (Nat.le_of_ble_eq_true rfl) (Nat.le_of_ble_eq_true rfl) fun v97 s => ?_
  refine r_p (pc' := 704) (p_istore (i := 6) (lv' := [(6, vi v97), (5, vi v94), (0, vt 999), (1, vr v1), (2, vr v2), (3, vr v3), (4, vi x)]) (by decide +kernel) (Nat.le_of_ble_eq_true rfl) rfl) ?_
  refine r_p (pc' := 705) (p_aload_n 4 (k := 2) (by decide +kernel) rfl) ?_
  refine r_callVI mvL_151 (ctX12_thrown v2) (rcX12_thrown v2) ⟨_, _, rfl⟩ (as := []) (st := []) rfl rfl (by decide +kernel) rfl (Nat.le_of_ble_eq_true rfl) (Nat.le_of_ble_eq_true rfl) fun v98 s => ?_
  refine r_p (pc' := 710) (p_iload 1 (i := 5) (by decide +kernel) rfl) ?_
  refine r_icmpeq (off := 5) (tgt := 715) (by decide +kernel) (by decide) (fun h99 => ?_) (fun h99 => ?_)
  · refine r_p (pc' := 717) (p_iload 1 (i := 5) (by decide +kernel) rfl) ?_
    refine r_ifne (off := 15) (tgt := 732) (by decide +kernel) (by decide) (fun h100 => ?_) (fun h100 => ?_)
    · refine r_p (pc' := 721) (p_aload_n 5 (k := 3) (by decide +kernel) rfl) ?_
      refine r_p (pc' := 722) (p_iconst (n := 0) (v := 0) (by decide +kernel) rfl) ?_
      refine r_ldL (by decide +kernel) fun v101 => ?_
      refine r_p (pc' := 725) (p_iload 0 (i := 6) (by decide +kernel) rfl) ?_
      refine r_p (pc' := 726) (p_i2l (by decide +kernel)) ?_
      refine r_p (pc' := 727) (p_lcmp (by decide +kernel)) ?_
      refine r_ifeq (off := 5) (tgt := 732) (by decide +kernel) (by decide) (fun h102 => ?_) (fun h102 => ?_)
      · refine r_p (pc' := 2977) (p_goto (off := 2245) (tgt := 2977) (by decide +kernel) (by decide)) ?_
        refine r_p (pc' := 2980) (p_iinc 6 (i := 4) (n := 6) (x := x) (v := x + 6) (lv' := [(4, vi (x + 6)), (6, vi v97), (5, vi v94), (0, vt 999), (1, vr v1), (2, vr v2), (3, vr v3)]) (by decide +kernel) rfl rfl (Nat.le_of_ble_eq_true rfl) rfl) ?_
        refine r_p (pc' := 23) (p_goto (off := -2957) (tgt := 23) (by decide +kernel) (by decide)) ?_
        refine r_sub (lv' := [(0, vt 999), (1, vr v1), (2, vr v2), (3, vr v3), (4, vi (x + 6))]) [3, 4, 5, 6, 0] rfl ?_
        exact hb (x + 6) _
      · refine r_p (pc' := 731) (p_iconst (n := 0) (v := 0) (by decide +kernel) rfl) ?_
        exact r_iret hk rfl _ rfl rfl (by decide +kernel)
    · refine r_p (pc' := 2977) (p_goto (off := 2245) (tgt := 2977) (by decide +kernel) (by decide)) ?_
      refine r_p (pc' := 2980) (p_iinc 6 (i := 4) (n := 6) (x := x) (v := x + 6) (lv' := [(4, vi (x + 6)), (6, vi v97), (5, vi v94), (0, vt 999), (1, vr v1), (2, vr v2), (3, vr v3)]) (by decide +kernel) rfl rfl (Nat.le_of_ble_eq_true rfl) rfl) ?_
      refine r_p (pc' := 23) (p_goto (off := -2957) (tgt := 23) (by decide +kernel) (by decide)) ?_
      refine r_sub (lv' := [(0, vt 999), (1, vr v1), (2, vr v2), (3, vr v3), (4, vi (x + 6))]) [3, 4, 5, 6, 0] rfl ?_
      exact hb (x + 6) _
  · refine r_p (pc' := 714) (p_iconst (n := 0) (v := 0) (by decide +kernel) rfl) ?_
    exact r_iret hk rfl _ rfl rfl (by decide +kernel)
set_option maxHeartbeats 4000000 in
set_option maxRecDepth 100000 in
theorem rmL_main_c9 (n0 : Nat) (xs : Nat → Int32) (v1 : Nat) (v2 : Nat) (v3 : Nat) (x : Int32) (v6 : Int32) (Y : DyA) (hx : wX (yW Y) = xs ∧ wL (yW Y) = n0) (K : Int32 ⊕ (Unit ⊕ Unit) → MM Int32) (hb : ∀ (x : Int32) (s : aS), Rr aL_main Y 23 [(0, vt 999), (1, vr v1), (2, vr v2), (3, vr v3), (4, vi x)] [] (mret (.inl x) : MM (Int32 ⊕ (Unit ⊕ Unit))) K rI s) (hk : K (.inr (.inr ())) = mret 0) (hk1 : K (.inr (.inl ())) = mret 1) (s : aS) : Rr aL_main Y 735 [(0, vt 999), (1, vr v1), (2, vr v2), (3, vr v3), (4, vi x)] [] (mL_main_c9 n0 xs v1 v2 v3 x) K rI s := by
  unfold mL_main_c9
  refine r_p (pc' := 736) (p_aload_n 1 (k := 1) (by decide +kernel) rfl) ?_
  refine r_p (pc' := 737) (p_tload_n 0 (k := 0) (Nat.le_of_ble_eq_true rfl) (by decide +kernel) rfl) ?_
  refine r_p (pc' := 739) (p_iload 4 (i := 4) (by decide +kernel) rfl) ?_
  refine r_p (pc' := 740) (p_iconst (n := 1) (v := 1) (by decide +kernel) rfl) ?_
  refine r_p (pc' := 741) (p_iadd (by decide +kernel)) ?_
  refine r_sldx (by decide +kernel) hx fun v104 => ?_
  refine r_p (pc' := 743) (p_tload_n 0 (k := 0) (Nat.le_of_ble_eq_true rfl) (by decide +kernel) rfl) ?_
  refine r_p (pc' := 745) (p_iload 4 (i := 4) (by decide +kernel) rfl) ?_
  refine r_p (pc' := 746) (p_iconst (n := 2) (v := 2) (by decide +kernel) rfl) ?_
  refine r_p (pc' := 747) (p_iadd (by decide +kernel)) ?_
  refine r_sldx (by decide +kernel) hx fun v105 => ?_
  refine r_p (pc' := 749) (p_tload_n 0 (k := 0) (Nat.le_of_ble_eq_true rfl) (by decide +kernel) rfl) ?_
  refine r_p (pc' := 751) (p_iload 4 (i := 4) (by decide +kernel) rfl) ?_
  refine r_p (pc' := 752) (p_iconst (n := 3) (v := 3) (by decide +kernel) rfl) ?_
  refine r_p (pc' := 753) (p_iadd (by decide +kernel)) ?_
  refine r_sldx (by decide +kernel) hx fun v106 => ?_
  refine r_p (pc' := 755) (p_tload_n 0 (k := 0) (Nat.le_of_ble_eq_true rfl) (by decide +kernel) rfl) ?_
  refine r_p (pc' := 757) (p_iload 4 (i := 4) (by decide +kernel) rfl) ?_
  refine r_p (pc' := 758) (p_iconst (n := 4) (v := 4) (by decide +kernel) rfl) ?_
  refine r_p (pc' := 759) (p_iadd (by decide +kernel)) ?_
  refine r_sldx (by decide +kernel) hx fun v107 => ?_
  refine r_p (pc' := 761) (p_aload_n 3 (k := 3) (by decide +kernel) rfl) ?_
  refine r_callSH msL_175 (ctL_deed v1 v104 v105 v106 v107 v3) (as := [vr v1, vi v104, vi v105, vi v106, vi v107, vr v3]) (st := []) rfl rfl (by decide +kernel) rfl (Nat.le_of_ble_eq_true rfl) (Nat.le_of_ble_eq_true rfl) fun v108 s => ?_
  refine r_p (pc' := 766) (p_istore (i := 5) (lv' := [(5, vi v108), (0, vt 999), (1, vr v1), (2, vr v2), (3, vr v3), (4, vi x)]) (by decide +kernel) (Nat.le_of_ble_eq_true rfl) rfl) ?_
  refine r_p (pc' := 767) (p_aload_n 3 (k := 2) (by decide +kernel) rfl) ?_
  refine r_p (pc' := 768) (p_tload_n 1 (k := 0) (Nat.le_of_ble_eq_true rfl) (by decide +kernel) rfl) ?_
  refine r_p (pc' := 770) (p_iload 5 (i := 4) (by decide +kernel) rfl) ?_
  refine r_p (pc' := 771) (p_iconst (n := 1) (v := 1) (by decide +kernel) rfl) ?_
  refine r_p (pc' := 772) (p_iadd (by decide +kernel)) ?_
  refine r_sldx (by decide +kernel) hx fun v109 => ?_
  refine r_p (pc' := 774) (p_tload_n 1 (k := 0) (Nat.le_of_ble_eq_true rfl) (by decide +kernel) rfl) ?_
  refine r_p (pc' := 776) (p_iload 5 (i := 4) (by decide +kernel) rfl) ?_
  refine r_p (pc' := 777) (p_iconst (n := 2) (v := 2) (by decide +kernel) rfl) ?_
  refine r_p (pc' := 778) (p_iadd (by decide +kernel)) ?_
  refine r_sldx (by decide +kernel) hx fun v110 => ?_
  refine r_p (pc' := 780) (p_tload_n 1 (k := 0) (Nat.le_of_ble_eq_true rfl) (by decide +kernel) rfl) ?_
  refine r_p (pc' := 782) (p_iload 5 (i := 4) (by decide +kernel) rfl) ?_
  refine r_p (pc' := 783) (p_iconst (n := 3) (v := 3) (by decide +kernel) rfl) ?_
  refine r_p (pc' := 784) (p_iadd (by decide +kernel)) ?_
  refine r_sldx (by decide +kernel) hx fun v111 => ?_
  refine r_p (pc' := 786) (p_tload_n 1 (k := 0) (Nat.le_of_ble_eq_true rfl) (by decide +kernel) rfl) ?_
  refine r_p (pc' := 788) (p_iload 5 (i := 4) (by decide +kernel) rfl) ?_
  refine r_p (pc' := 789) (p_iconst (n := 4) (v := 4) (by decide +kernel) rfl) ?_
  refine r_p (pc' := 790) (p_iadd (by decide +kernel)) ?_
  refine r_sldx (by decide +kernel) hx fun v112 => ?_
  refine r_callVI mvL_178 (ctX12_deed v2 v109 v110 v111 v112) (rcX12_deed v2 v109 v110 v111 v112) ⟨_, _, rfl⟩ (as := [vi v109, vi v110, vi v111, vi v112]) (st := []) rfl rfl (by decide +kernel) rfl (Nat.le_of_ble_eq_true rfl) (Nat.le_of_ble_eq_true rfl) fun v113 s => ?_
  refine r_p (pc' := 796) (p_istore (i := 6) (lv' := [(6, vi v113), (5, vi v108), (0, vt 999), (1, vr v1), (2, vr v2), (3, vr v3), (4, vi x)]) (by decide +kernel) (Nat.le_of_ble_eq_true rfl) rfl) ?_
  refine r_p (pc' := 797) (p_aload_n 4 (k := 2) (by decide +kernel) rfl) ?_
  refine r_callVI mvL_151 (ctX12_thrown v2) (rcX12_thrown v2) ⟨_, _, rfl⟩ (as := []) (st := []) rfl rfl (by decide +kernel) rfl (Nat.le_of_ble_eq_true rfl) (Nat.le_of_ble_eq_true rfl) fun v114 s => ?_
  refine r_p (pc' := 802) (p_iload 1 (i := 5) (by decide +kernel) rfl) ?_
  refine r_icmpeq (off := 5) (tgt := 807) (by decide +kernel) (by decide) (fun h115 => ?_) (fun h115 => ?_)
  · refine r_p (pc' := 809) (p_iload 1 (i := 5) (by decide +kernel) rfl) ?_
    refine r_ifne (off := 15) (tgt := 824) (by decide +kernel) (by decide) (fun h116 => ?_) (fun h116 => ?_)
    · refine r_p (pc' := 813) (p_aload_n 5 (k := 3) (by decide +kernel) rfl) ?_
      refine r_p (pc' := 814) (p_iconst (n := 0) (v := 0) (by decide +kernel) rfl) ?_
      refine r_ldL (by decide +kernel) fun v117 => ?_
      refine r_p (pc' := 817) (p_iload 0 (i := 6) (by decide +kernel) rfl) ?_
      refine r_p (pc' := 818) (p_i2l (by decide +kernel)) ?_
      refine r_p (pc' := 819) (p_lcmp (by decide +kernel)) ?_
      refine r_ifeq (off := 5) (tgt := 824) (by decide +kernel) (by decide) (fun h118 => ?_) (fun h118 => ?_)
      · refine r_p (pc' := 2977) (p_goto (off := 2153) (tgt := 2977) (by decide +kernel) (by decide)) ?_
        refine r_p (pc' := 2980) (p_iinc 6 (i := 4) (n := 6) (x := x) (v := x + 6) (lv' := [(4, vi (x + 6)), (6, vi v113), (5, vi v108), (0, vt 999), (1, vr v1), (2, vr v2), (3, vr v3)]) (by decide +kernel) rfl rfl (Nat.le_of_ble_eq_true rfl) rfl) ?_
        refine r_p (pc' := 23) (p_goto (off := -2957) (tgt := 23) (by decide +kernel) (by decide)) ?_
        refine r_sub (lv' := [(0, vt 999), (1, vr v1), (2, vr v2), (3, vr v3), (4, vi (x + 6))]) [3, 4, 5, 6, 0] rfl ?_
        exact hb (x + 6) _
      · refine r_p (pc' := 823) (p_iconst (n := 0) (v := 0) (by decide +kernel) rfl) ?_
        exact r_iret hk rfl _ rfl rfl (by decide +kernel)
    · refine r_p (pc' := 2977) (p_goto (off := 2153) (tgt := 2977) (by decide +kernel) (by decide)) ?_
      refine r_p (pc' := 2980) (p_iinc 6 (i := 4) (n := 6) (x := x) (v := x + 6) (lv' := [(4, vi (x + 6)), (6, vi v113), (5, vi v108), (0, vt 999), (1, vr v1), (2, vr v2), (3, vr v3)]) (by decide +kernel) rfl rfl (Nat.le_of_ble_eq_true rfl) rfl) ?_
      refine r_p (pc' := 23) (p_goto (off := -2957) (tgt := 23) (by decide +kernel) (by decide)) ?_
      refine r_sub (lv' := [(0, vt 999), (1, vr v1), (2, vr v2), (3, vr v3), (4, vi (x + 6))]) [3, 4, 5, 6, 0] rfl ?_
      exact hb (x + 6) _
  · refine r_p (pc' := 806) (p_iconst (n := 0) (v := 0) (by decide +kernel) rfl) ?_
    exact r_iret hk rfl _ rfl rfl (by decide +kernel)
set_option maxHeartbeats 4000000 in
set_option maxRecDepth 100000 in
theorem rmL_main_c10 (n0 : Nat) (xs : Nat → Int32) (v1 : Nat) (v2 : Nat) (v3 : Nat) (x : Int32) (v6 : Int32) (Y : DyA) (hx : wX (yW Y) = xs ∧ wL (yW Y) = n0) (K : Int32 ⊕ (Unit ⊕ Unit) → MM Int32) (hb : ∀ (x : Int32) (s : aS), Rr aL_main Y 23 [(0, vt 999), (1, vr v1), (2, vr v2), (3, vr v3), (4, vi x)] [] (mret (.inl x) : MM (Int32 ⊕ (Unit ⊕ Unit))) K rI s) (hk : K (.inr (.inr ())) = mret 0) (hk1 : K (.inr (.inl ())) = mret 1) (s : aS) : Rr aL_main Y 827 [(0, vt 999), (1, vr v1), (2, vr v2), (3, vr v3), (4, vi x)] [] (mL_main_c10 n0 xs v1 v2 v3 x) K rI s := by
  unfold mL_main_c10
  refine r_p (pc' := 828) (p_aload_n 1 (k := 1) (by decide +kernel) rfl) ?_
  refine r_p (pc' := 829) (p_tload_n 0 (k := 0) (Nat.le_of_ble_eq_true rfl) (by decide +kernel) rfl) ?_
  refine r_p (pc' := 831) (p_iload 4 (i := 4) (by decide +kernel) rfl) ?_
  refine r_p (pc' := 832) (p_iconst (n := 1) (v := 1) (by decide +kernel) rfl) ?_
  refine r_p (pc' := 833) (p_iadd (by decide +kernel)) ?_
  refine r_sldx (by decide +kernel) hx fun v120 => ?_
  refine r_p (pc' := 835) (p_tload_n 0 (k := 0) (Nat.le_of_ble_eq_true rfl) (by decide +kernel) rfl) ?_
  refine r_p (pc' := 837) (p_iload 4 (i := 4) (by decide +kernel) rfl) ?_
  refine r_p (pc' := 838) (p_iconst (n := 2) (v := 2) (by decide +kernel) rfl) ?_
  refine r_p (pc' := 839) (p_iadd (by decide +kernel)) ?_
  refine r_sldx (by decide +kernel) hx fun v121 => ?_
  refine r_p (pc' := 841) (p_tload_n 0 (k := 0) (Nat.le_of_ble_eq_true rfl) (by decide +kernel) rfl) ?_
  refine r_p (pc' := 843) (p_iload 4 (i := 4) (by decide +kernel) rfl) ?_
  refine r_p (pc' := 844) (p_iconst (n := 3) (v := 3) (by decide +kernel) rfl) ?_
  refine r_p (pc' := 845) (p_iadd (by decide +kernel)) ?_
  refine r_sldx (by decide +kernel) hx fun v122 => ?_
  refine r_p (pc' := 847) (p_aload_n 3 (k := 3) (by decide +kernel) rfl) ?_
  refine r_callSH msL_179 (ctL_swap v1 v120 v121 v122 v3) (as := [vr v1, vi v120, vi v121, vi v122, vr v3]) (st := []) rfl rfl (by decide +kernel) rfl (Nat.le_of_ble_eq_true rfl) (Nat.le_of_ble_eq_true rfl) fun v123 s => ?_
  refine r_p (pc' := 852) (p_istore (i := 5) (lv' := [(5, vi v123), (0, vt 999), (1, vr v1), (2, vr v2), (3, vr v3), (4, vi x)]) (by decide +kernel) (Nat.le_of_ble_eq_true rfl) rfl) ?_
  refine r_p (pc' := 853) (p_aload_n 3 (k := 2) (by decide +kernel) rfl) ?_
  refine r_p (pc' := 854) (p_tload_n 1 (k := 0) (Nat.le_of_ble_eq_true rfl) (by decide +kernel) rfl) ?_
  refine r_p (pc' := 856) (p_iload 5 (i := 4) (by decide +kernel) rfl) ?_
  refine r_p (pc' := 857) (p_iconst (n := 1) (v := 1) (by decide +kernel) rfl) ?_
  refine r_p (pc' := 858) (p_iadd (by decide +kernel)) ?_
  refine r_sldx (by decide +kernel) hx fun v124 => ?_
  refine r_p (pc' := 860) (p_tload_n 1 (k := 0) (Nat.le_of_ble_eq_true rfl) (by decide +kernel) rfl) ?_
  refine r_p (pc' := 862) (p_iload 5 (i := 4) (by decide +kernel) rfl) ?_
  refine r_p (pc' := 863) (p_iconst (n := 2) (v := 2) (by decide +kernel) rfl) ?_
  refine r_p (pc' := 864) (p_iadd (by decide +kernel)) ?_
  refine r_sldx (by decide +kernel) hx fun v125 => ?_
  refine r_p (pc' := 866) (p_tload_n 1 (k := 0) (Nat.le_of_ble_eq_true rfl) (by decide +kernel) rfl) ?_
  refine r_p (pc' := 868) (p_iload 5 (i := 4) (by decide +kernel) rfl) ?_
  refine r_p (pc' := 869) (p_iconst (n := 3) (v := 3) (by decide +kernel) rfl) ?_
  refine r_p (pc' := 870) (p_iadd (by decide +kernel)) ?_
  refine r_sldx (by decide +kernel) hx fun v126 => ?_
  refine r_callVI mvL_182 (ctX12_swap v2 v124 v125 v126) (rcX12_swap v2 v124 v125 v126) ⟨_, _, rfl⟩ (as := [vi v124, vi v125, vi v126]) (st := []) rfl rfl (by decide +kernel) rfl (Nat.le_of_ble_eq_true rfl) (Nat.le_of_ble_eq_true rfl) fun v127 s => ?_
  refine r_p (pc' := 876) (p_istore (i := 6) (lv' := [(6, vi v127), (5, vi v123), (0, vt 999), (1, vr v1), (2, vr v2), (3, vr v3), (4, vi x)]) (by decide +kernel) (Nat.le_of_ble_eq_true rfl) rfl) ?_
  refine r_p (pc' := 877) (p_aload_n 4 (k := 2) (by decide +kernel) rfl) ?_
  refine r_callVI mvL_151 (ctX12_thrown v2) (rcX12_thrown v2) ⟨_, _, rfl⟩ (as := []) (st := []) rfl rfl (by decide +kernel) rfl (Nat.le_of_ble_eq_true rfl) (Nat.le_of_ble_eq_true rfl) fun v128 s => ?_
  refine r_p (pc' := 882) (p_iload 1 (i := 5) (by decide +kernel) rfl) ?_
  refine r_icmpeq (off := 5) (tgt := 887) (by decide +kernel) (by decide) (fun h129 => ?_) (fun h129 => ?_)
  · refine r_p (pc' := 889) (p_iload 1 (i := 5) (by decide +kernel) rfl) ?_
    refine r_ifne (off := 15) (tgt := 904) (by decide +kernel) (by decide) (fun h130 => ?_) (fun h130 => ?_)
    · refine r_p (pc' := 893) (p_aload_n 5 (k := 3) (by decide +kernel) rfl) ?_
      refine r_p (pc' := 894) (p_iconst (n := 0) (v := 0) (by decide +kernel) rfl) ?_
      refine r_ldL (by decide +kernel) fun v131 => ?_
      refine r_p (pc' := 897) (p_iload 0 (i := 6) (by decide +kernel) rfl) ?_
      refine r_p (pc' := 898) (p_i2l (by decide +kernel)) ?_
      refine r_p (pc' := 899) (p_lcmp (by decide +kernel)) ?_
      refine r_ifeq (off := 5) (tgt := 904) (by decide +kernel) (by decide) (fun h132 => ?_) (fun h132 => ?_)
      · refine r_p (pc' := 2977) (p_goto (off := 2073) (tgt := 2977) (by decide +kernel) (by decide)) ?_
        refine r_p (pc' := 2980) (p_iinc 6 (i := 4) (n := 6) (x := x) (v := x + 6) (lv' := [(4, vi (x + 6)), (6, vi v127), (5, vi v123), (0, vt 999), (1, vr v1), (2, vr v2), (3, vr v3)]) (by decide +kernel) rfl rfl (Nat.le_of_ble_eq_true rfl) rfl) ?_
        refine r_p (pc' := 23) (p_goto (off := -2957) (tgt := 23) (by decide +kernel) (by decide)) ?_
        refine r_sub (lv' := [(0, vt 999), (1, vr v1), (2, vr v2), (3, vr v3), (4, vi (x + 6))]) [3, 4, 5, 6, 0] rfl ?_
        exact hb (x + 6) _
      · refine r_p (pc' := 903) (p_iconst (n := 0) (v := 0) (by decide +kernel) rfl) ?_
        exact r_iret hk rfl _ rfl rfl (by decide +kernel)
    · refine r_p (pc' := 2977) (p_goto (off := 2073) (tgt := 2977) (by decide +kernel) (by decide)) ?_
      refine r_p (pc' := 2980) (p_iinc 6 (i := 4) (n := 6) (x := x) (v := x + 6) (lv' := [(4, vi (x + 6)), (6, vi v127), (5, vi v123), (0, vt 999), (1, vr v1), (2, vr v2), (3, vr v3)]) (by decide +kernel) rfl rfl (Nat.le_of_ble_eq_true rfl) rfl) ?_
      refine r_p (pc' := 23) (p_goto (off := -2957) (tgt := 23) (by decide +kernel) (by decide)) ?_
      refine r_sub (lv' := [(0, vt 999), (1, vr v1), (2, vr v2), (3, vr v3), (4, vi (x + 6))]) [3, 4, 5, 6, 0] rfl ?_
      exact hb (x + 6) _
  · refine r_p (pc' := 886) (p_iconst (n := 0) (v := 0) (by decide +kernel) rfl) ?_
    exact r_iret hk rfl _ rfl rfl (by decide +kernel)
set_option maxHeartbeats 4000000 in
set_option maxRecDepth 100000 in
theorem rmL_main_c11 (n0 : Nat) (xs : Nat → Int32) (v1 : Nat) (v2 : Nat) (v3 : Nat) (x : Int32) (v6 : Int32) (Y : DyA) (hx : wX (yW Y) = xs ∧ wL (yW Y) = n0) (K : Int32 ⊕ (Unit ⊕ Unit) → MM Int32) (hb : ∀ (x : Int32) (s : aS), Rr aL_main Y 23 [(0, vt 999), (1, vr v1), (2, vr v2), (3, vr v3), (4, vi x)] [] (mret (.inl x) : MM (Int32 ⊕ (Unit ⊕ Unit))) K rI s) (hk : K (.inr (.inr ())) = mret 0) (hk1 : K (.inr (.inl ())) = mret 1) (s : aS) : Rr aL_main Y 907 [(0, vt 999), (1, vr v1), (2, vr v2), (3, vr v3), (4, vi x)] [] (mL_main_c11 n0 xs v1 v2 v3 x) K rI s := by
  unfold mL_main_c11
  refine r_p (pc' := 908) (p_aload_n 1 (k := 1) (by decide +kernel) rfl) ?_
  refine r_p (pc' := 909) (p_tload_n 0 (k := 0) (Nat.le_of_ble_eq_true rfl) (by decide +kernel) rfl) ?_
  refine r_p (pc' := 911) (p_iload 4 (i := 4) (by decide +kernel) rfl) ?_
  refine r_p (pc' := 912) (p_iconst (n := 1) (v := 1) (by decide +kernel) rfl) ?_
  refine r_p (pc' := 913) (p_iadd (by decide +kernel)) ?_
  refine r_sldx (by decide +kernel) hx fun v134 => ?_
  refine r_p (pc' := 915) (p_tload_n 0 (k := 0) (Nat.le_of_ble_eq_true rfl) (by decide +kernel) rfl) ?_
  refine r_p (pc' := 917) (p_iload 4 (i := 4) (by decide +kernel) rfl) ?_
  refine r_p (pc' := 918) (p_iconst (n := 2) (v := 2) (by decide +kernel) rfl) ?_
  refine r_p (pc' := 919) (p_iadd (by decide +kernel)) ?_
  refine r_sldx (by decide +kernel) hx fun v135 => ?_
  refine r_p (pc' := 921) (p_aload_n 3 (k := 3) (by decide +kernel) rfl) ?_
  refine r_callSH msL_183 (ctL_serve v1 v134 v135 v3) (as := [vr v1, vi v134, vi v135, vr v3]) (st := []) rfl rfl (by decide +kernel) rfl (Nat.le_of_ble_eq_true rfl) (Nat.le_of_ble_eq_true rfl) fun v136 s => ?_
  refine r_p (pc' := 926) (p_istore (i := 5) (lv' := [(5, vi v136), (0, vt 999), (1, vr v1), (2, vr v2), (3, vr v3), (4, vi x)]) (by decide +kernel) (Nat.le_of_ble_eq_true rfl) rfl) ?_
  refine r_p (pc' := 927) (p_aload_n 3 (k := 2) (by decide +kernel) rfl) ?_
  refine r_p (pc' := 928) (p_tload_n 1 (k := 0) (Nat.le_of_ble_eq_true rfl) (by decide +kernel) rfl) ?_
  refine r_p (pc' := 930) (p_iload 5 (i := 4) (by decide +kernel) rfl) ?_
  refine r_p (pc' := 931) (p_iconst (n := 1) (v := 1) (by decide +kernel) rfl) ?_
  refine r_p (pc' := 932) (p_iadd (by decide +kernel)) ?_
  refine r_sldx (by decide +kernel) hx fun v137 => ?_
  refine r_p (pc' := 934) (p_tload_n 1 (k := 0) (Nat.le_of_ble_eq_true rfl) (by decide +kernel) rfl) ?_
  refine r_p (pc' := 936) (p_iload 5 (i := 4) (by decide +kernel) rfl) ?_
  refine r_p (pc' := 937) (p_iconst (n := 2) (v := 2) (by decide +kernel) rfl) ?_
  refine r_p (pc' := 938) (p_iadd (by decide +kernel)) ?_
  refine r_sldx (by decide +kernel) hx fun v138 => ?_
  refine r_callVI mvL_185 (ctX12_serve v2 v137 v138) (rcX12_serve v2 v137 v138) ⟨_, _, rfl⟩ (as := [vi v137, vi v138]) (st := []) rfl rfl (by decide +kernel) rfl (Nat.le_of_ble_eq_true rfl) (Nat.le_of_ble_eq_true rfl) fun v139 s => ?_
  refine r_p (pc' := 944) (p_istore (i := 6) (lv' := [(6, vi v139), (5, vi v136), (0, vt 999), (1, vr v1), (2, vr v2), (3, vr v3), (4, vi x)]) (by decide +kernel) (Nat.le_of_ble_eq_true rfl) rfl) ?_
  refine r_p (pc' := 945) (p_aload_n 4 (k := 2) (by decide +kernel) rfl) ?_
  refine r_callVI mvL_151 (ctX12_thrown v2) (rcX12_thrown v2) ⟨_, _, rfl⟩ (as := []) (st := []) rfl rfl (by decide +kernel) rfl (Nat.le_of_ble_eq_true rfl) (Nat.le_of_ble_eq_true rfl) fun v140 s => ?_
  refine r_p (pc' := 950) (p_iload 1 (i := 5) (by decide +kernel) rfl) ?_
  refine r_icmpeq (off := 5) (tgt := 955) (by decide +kernel) (by decide) (fun h141 => ?_) (fun h141 => ?_)
  · refine r_p (pc' := 957) (p_iload 1 (i := 5) (by decide +kernel) rfl) ?_
    refine r_ifne (off := 15) (tgt := 972) (by decide +kernel) (by decide) (fun h142 => ?_) (fun h142 => ?_)
    · refine r_p (pc' := 961) (p_aload_n 5 (k := 3) (by decide +kernel) rfl) ?_
      refine r_p (pc' := 962) (p_iconst (n := 0) (v := 0) (by decide +kernel) rfl) ?_
      refine r_ldL (by decide +kernel) fun v143 => ?_
      refine r_p (pc' := 965) (p_iload 0 (i := 6) (by decide +kernel) rfl) ?_
      refine r_p (pc' := 966) (p_i2l (by decide +kernel)) ?_
      refine r_p (pc' := 967) (p_lcmp (by decide +kernel)) ?_
      refine r_ifeq (off := 5) (tgt := 972) (by decide +kernel) (by decide) (fun h144 => ?_) (fun h144 => ?_)
      · refine r_p (pc' := 2977) (p_goto (off := 2005) (tgt := 2977) (by decide +kernel) (by decide)) ?_
        refine r_p (pc' := 2980) (p_iinc 6 (i := 4) (n := 6) (x := x) (v := x + 6) (lv' := [(4, vi (x + 6)), (6, vi v139), (5, vi v136), (0, vt 999), (1, vr v1), (2, vr v2), (3, vr v3)]) (by decide +kernel) rfl rfl (Nat.le_of_ble_eq_true rfl) rfl) ?_
        refine r_p (pc' := 23) (p_goto (off := -2957) (tgt := 23) (by decide +kernel) (by decide)) ?_
        refine r_sub (lv' := [(0, vt 999), (1, vr v1), (2, vr v2), (3, vr v3), (4, vi (x + 6))]) [3, 4, 5, 6, 0] rfl ?_
        exact hb (x + 6) _
      · refine r_p (pc' := 971) (p_iconst (n := 0) (v := 0) (by decide +kernel) rfl) ?_
        exact r_iret hk rfl _ rfl rfl (by decide +kernel)
    · refine r_p (pc' := 2977) (p_goto (off := 2005) (tgt := 2977) (by decide +kernel) (by decide)) ?_
      refine r_p (pc' := 2980) (p_iinc 6 (i := 4) (n := 6) (x := x) (v := x + 6) (lv' := [(4, vi (x + 6)), (6, vi v139), (5, vi v136), (0, vt 999), (1, vr v1), (2, vr v2), (3, vr v3)]) (by decide +kernel) rfl rfl (Nat.le_of_ble_eq_true rfl) rfl) ?_
      refine r_p (pc' := 23) (p_goto (off := -2957) (tgt := 23) (by decide +kernel) (by decide)) ?_
      refine r_sub (lv' := [(0, vt 999), (1, vr v1), (2, vr v2), (3, vr v3), (4, vi (x + 6))]) [3, 4, 5, 6, 0] rfl ?_
      exact hb (x + 6) _
  · refine r_p (pc' := 954) (p_iconst (n := 0) (v := 0) (by decide +kernel) rfl) ?_
    exact r_iret hk rfl _ rfl rfl (by decide +kernel)
set_option maxHeartbeats 4000000 in
set_option maxRecDepth 100000 in
theorem rmL_main_c12 (n0 : Nat) (xs : Nat → Int32) (v1 : Nat) (v2 : Nat) (v3 : Nat) (x : Int32) (v6 : Int32) (Y : DyA) (hx : wX (yW Y) = xs ∧ wL (yW Y) = n0) (K : Int32 ⊕ (Unit ⊕ Unit) → MM Int32) (hb : ∀ (x : Int32) (s : aS), Rr aL_main Y 23 [(0, vt 999), (1, vr v1), (2, vr v2), (3, vr v3), (4, vi x)] [] (mret (.inl x) : MM (Int32 ⊕ (Unit ⊕ Unit))) K rI s) (hk : K (.inr (.inr ())) = mret 0) (hk1 : K (.inr (.inl ())) = mret 1) (s : aS) : Rr aL_main Y 975 [(0, vt 999), (1, vr v1), (2, vr v2), (3, vr v3), (4, vi x)] [] (mL_main_c12 n0 xs v1 v2 v3 x) K rI s := by
  unfold mL_main_c12
  refine r_p (pc' := 976) (p_aload_n 1 (k := 1) (by decide +kernel) rfl) ?_
  refine r_p (pc' := 977) (p_tload_n 0 (k := 0) (Nat.le_of_ble_eq_true rfl) (by decide +kernel) rfl) ?_
  refine r_p (pc' := 979) (p_iload 4 (i := 4) (by decide +kernel) rfl) ?_
  refine r_p (pc' := 980) (p_iconst (n := 1) (v := 1) (by decide +kernel) rfl) ?_
  refine r_p (pc' := 981) (p_iadd (by decide +kernel)) ?_
  refine r_sldx (by decide +kernel) hx fun v146 => ?_
  refine r_p (pc' := 983) (p_aload_n 3 (k := 3) (by decide +kernel) rfl) ?_
  refine r_callSH msL_186 (ctL_grind v1 v146 v3) (as := [vr v1, vi v146, vr v3]) (st := []) rfl rfl (by decide +kernel) rfl (Nat.le_of_ble_eq_true rfl) (Nat.le_of_ble_eq_true rfl) fun v147 s => ?_
  refine r_p (pc' := 988) (p_istore (i := 5) (lv' := [(5, vi v147), (0, vt 999), (1, vr v1), (2, vr v2), (3, vr v3), (4, vi x)]) (by decide +kernel) (Nat.le_of_ble_eq_true rfl) rfl) ?_
  refine r_p (pc' := 989) (p_aload_n 3 (k := 2) (by decide +kernel) rfl) ?_
  refine r_p (pc' := 990) (p_tload_n 1 (k := 0) (Nat.le_of_ble_eq_true rfl) (by decide +kernel) rfl) ?_
  refine r_p (pc' := 992) (p_iload 5 (i := 4) (by decide +kernel) rfl) ?_
  refine r_p (pc' := 993) (p_iconst (n := 1) (v := 1) (by decide +kernel) rfl) ?_
  refine r_p (pc' := 994) (p_iadd (by decide +kernel)) ?_
  refine r_sldx (by decide +kernel) hx fun v148 => ?_
  refine r_callVI mvL_189 (ctX12_grind v2 v148) (rcX12_grind v2 v148) ⟨_, _, rfl⟩ (as := [vi v148]) (st := []) rfl rfl (by decide +kernel) rfl (Nat.le_of_ble_eq_true rfl) (Nat.le_of_ble_eq_true rfl) fun v149 s => ?_
  refine r_p (pc' := 1000) (p_istore (i := 6) (lv' := [(6, vi v149), (5, vi v147), (0, vt 999), (1, vr v1), (2, vr v2), (3, vr v3), (4, vi x)]) (by decide +kernel) (Nat.le_of_ble_eq_true rfl) rfl) ?_
  refine r_p (pc' := 1001) (p_aload_n 4 (k := 2) (by decide +kernel) rfl) ?_
  refine r_callVI mvL_151 (ctX12_thrown v2) (rcX12_thrown v2) ⟨_, _, rfl⟩ (as := []) (st := []) rfl rfl (by decide +kernel) rfl (Nat.le_of_ble_eq_true rfl) (Nat.le_of_ble_eq_true rfl) fun v150 s => ?_
  refine r_p (pc' := 1006) (p_iload 1 (i := 5) (by decide +kernel) rfl) ?_
  refine r_icmpeq (off := 5) (tgt := 1011) (by decide +kernel) (by decide) (fun h151 => ?_) (fun h151 => ?_)
  · refine r_p (pc' := 1013) (p_iload 1 (i := 5) (by decide +kernel) rfl) ?_
    refine r_ifne (off := 15) (tgt := 1028) (by decide +kernel) (by decide) (fun h152 => ?_) (fun h152 => ?_)
    · refine r_p (pc' := 1017) (p_aload_n 5 (k := 3) (by decide +kernel) rfl) ?_
      refine r_p (pc' := 1018) (p_iconst (n := 0) (v := 0) (by decide +kernel) rfl) ?_
      refine r_ldL (by decide +kernel) fun v153 => ?_
      refine r_p (pc' := 1021) (p_iload 0 (i := 6) (by decide +kernel) rfl) ?_
      refine r_p (pc' := 1022) (p_i2l (by decide +kernel)) ?_
      refine r_p (pc' := 1023) (p_lcmp (by decide +kernel)) ?_
      refine r_ifeq (off := 5) (tgt := 1028) (by decide +kernel) (by decide) (fun h154 => ?_) (fun h154 => ?_)
      · refine r_p (pc' := 2977) (p_goto (off := 1949) (tgt := 2977) (by decide +kernel) (by decide)) ?_
        refine r_p (pc' := 2980) (p_iinc 6 (i := 4) (n := 6) (x := x) (v := x + 6) (lv' := [(4, vi (x + 6)), (6, vi v149), (5, vi v147), (0, vt 999), (1, vr v1), (2, vr v2), (3, vr v3)]) (by decide +kernel) rfl rfl (Nat.le_of_ble_eq_true rfl) rfl) ?_
        refine r_p (pc' := 23) (p_goto (off := -2957) (tgt := 23) (by decide +kernel) (by decide)) ?_
        refine r_sub (lv' := [(0, vt 999), (1, vr v1), (2, vr v2), (3, vr v3), (4, vi (x + 6))]) [3, 4, 5, 6, 0] rfl ?_
        exact hb (x + 6) _
      · refine r_p (pc' := 1027) (p_iconst (n := 0) (v := 0) (by decide +kernel) rfl) ?_
        exact r_iret hk rfl _ rfl rfl (by decide +kernel)
    · refine r_p (pc' := 2977) (p_goto (off := 1949) (tgt := 2977) (by decide +kernel) (by decide)) ?_
      refine r_p (pc' := 2980) (p_iinc 6 (i := 4) (n := 6) (x := x) (v := x + 6) (lv' := [(4, vi (x + 6)), (6, vi v149), (5, vi v147), (0, vt 999), (1, vr v1), (2, vr v2), (3, vr v3)]) (by decide +kernel) rfl rfl (Nat.le_of_ble_eq_true rfl) rfl) ?_
      refine r_p (pc' := 23) (p_goto (off := -2957) (tgt := 23) (by decide +kernel) (by decide)) ?_
      refine r_sub (lv' := [(0, vt 999), (1, vr v1), (2, vr v2), (3, vr v3), (4, vi (x + 6))]) [3, 4, 5, 6, 0] rfl ?_
      exact hb (x + 6) _
  · refine r_p (pc' := 1010) (p_iconst (n := 0) (v := 0) (by decide +kernel) rfl) ?_
    exact r_iret hk rfl _ rfl rfl (by decide +kernel)
set_option maxHeartbeats 4000000 in
set_option maxRecDepth 100000 in
theorem rmL_main_c13 (n0 : Nat) (xs : Nat → Int32) (v1 : Nat) (v2 : Nat) (v3 : Nat) (x : Int32) (v6 : Int32) (Y : DyA) (hx : wX (yW Y) = xs ∧ wL (yW Y) = n0) (K : Int32 ⊕ (Unit ⊕ Unit) → MM Int32) (hb : ∀ (x : Int32) (s : aS), Rr aL_main Y 23 [(0, vt 999), (1, vr v1), (2, vr v2), (3, vr v3), (4, vi x)] [] (mret (.inl x) : MM (Int32 ⊕ (Unit ⊕ Unit))) K rI s) (hk : K (.inr (.inr ())) = mret 0) (hk1 : K (.inr (.inl ())) = mret 1) (s : aS) : Rr aL_main Y 1031 [(0, vt 999), (1, vr v1), (2, vr v2), (3, vr v3), (4, vi x)] [] (mL_main_c13 n0 xs v1 v2 v3 x) K rI s := by
  unfold mL_main_c13
  refine r_p (pc' := 1032) (p_aload_n 1 (k := 1) (by decide +kernel) rfl) ?_
  refine r_p (pc' := 1033) (p_tload_n 0 (k := 0) (Nat.le_of_ble_eq_true rfl) (by decide +kernel) rfl) ?_
  refine r_p (pc' := 1035) (p_iload 4 (i := 4) (by decide +kernel) rfl) ?_
  refine r_p (pc' := 1036) (p_iconst (n := 1) (v := 1) (by decide +kernel) rfl) ?_
  refine r_p (pc' := 1037) (p_iadd (by decide +kernel)) ?_
  refine r_sldx (by decide +kernel) hx fun v156 => ?_
  refine r_p (pc' := 1039) (p_tload_n 0 (k := 0) (Nat.le_of_ble_eq_true rfl) (by decide +kernel) rfl) ?_
  refine r_p (pc' := 1041) (p_iload 4 (i := 4) (by decide +kernel) rfl) ?_
  refine r_p (pc' := 1042) (p_iconst (n := 2) (v := 2) (by decide +kernel) rfl) ?_
  refine r_p (pc' := 1043) (p_iadd (by decide +kernel)) ?_
  refine r_sldx (by decide +kernel) hx fun v157 => ?_
  refine r_join 1052 (fun (x159 : Int32) => [(0, vt 999), (1, vr v1), (2, vr v2), (3, vr v3), (4, vi x)]) (fun (x159 : Int32) => [vi x159, vi v156, vr v1]) (fun x159 s => ?_) (fun K160 hj161 => ?_)
  · refine r_p (pc' := 1053) (p_aload_n 3 (k := 3) (by decide +kernel) rfl) ?_
    refine r_callSH msL_190 (ctL_nail v1 v156 x159 v3) (as := [vr v1, vi v156, vi x159, vr v3]) (st := []) rfl rfl (by decide +kernel) rfl (Nat.le_of_ble_eq_true rfl) (Nat.le_of_ble_eq_true rfl) fun v162 s => ?_
    refine r_p (pc' := 1058) (p_istore (i := 5) (lv' := [(5, vi v162), (0, vt 999), (1, vr v1), (2, vr v2), (3, vr v3), (4, vi x)]) (by decide +kernel) (Nat.le_of_ble_eq_true rfl) rfl) ?_
    refine r_p (pc' := 1059) (p_aload_n 3 (k := 2) (by decide +kernel) rfl) ?_
    refine r_p (pc' := 1060) (p_tload_n 1 (k := 0) (Nat.le_of_ble_eq_true rfl) (by decide +kernel) rfl) ?_
    refine r_p (pc' := 1062) (p_iload 5 (i := 4) (by decide +kernel) rfl) ?_
    refine r_p (pc' := 1063) (p_iconst (n := 1) (v := 1) (by decide +kernel) rfl) ?_
    refine r_p (pc' := 1064) (p_iadd (by decide +kernel)) ?_
    refine r_sldx (by decide +kernel) hx fun v163 => ?_
    refine r_p (pc' := 1066) (p_tload_n 1 (k := 0) (Nat.le_of_ble_eq_true rfl) (by decide +kernel) rfl) ?_
    refine r_p (pc' := 1068) (p_iload 5 (i := 4) (by decide +kernel) rfl) ?_
    refine r_p (pc' := 1069) (p_iconst (n := 2) (v := 2) (by decide +kernel) rfl) ?_
    refine r_p (pc' := 1070) (p_iadd (by decide +kernel)) ?_
    refine r_sldx (by decide +kernel) hx fun v164 => ?_
    refine r_join 1079 (fun (x166 : Int32) => [(0, vt 999), (1, vr v1), (2, vr v2), (3, vr v3), (4, vi x), (5, vi v162)]) (fun (x166 : Int32) => [vi x166, vi v163, vr v2]) (fun x166 s => ?_) (fun K167 hj168 => ?_)
    · refine r_callVI mvL_192 (ctX12_nail v2 v163 x166) (rcX12_nail v2 v163 x166) ⟨_, _, rfl⟩ (as := [vi v163, vi x166]) (st := []) rfl rfl (by decide +kernel) rfl (Nat.le_of_ble_eq_true rfl) (Nat.le_of_ble_eq_true rfl) fun v169 s => ?_
      refine r_p (pc' := 1084) (p_istore (i := 6) (lv' := [(6, vi v169), (0, vt 999), (1, vr v1), (2, vr v2), (3, vr v3), (4, vi x), (5, vi v162)]) (by decide +kernel) (Nat.le_of_ble_eq_true rfl) rfl) ?_
      refine r_p (pc' := 1085) (p_aload_n 3 (k := 2) (by decide +kernel) rfl) ?_
      refine r_callVI mvL_151 (ctX12_thrown v2) (rcX12_thrown v2) ⟨_, _, rfl⟩ (as := []) (st := []) rfl rfl (by decide +kernel) rfl (Nat.le_of_ble_eq_true rfl) (Nat.le_of_ble_eq_true rfl) fun v170 s => ?_
      refine r_p (pc' := 1090) (p_iload 6 (i := 5) (by decide +kernel) rfl) ?_
      refine r_icmpeq (off := 5) (tgt := 1095) (by decide +kernel) (by decide) (fun h171 => ?_) (fun h171 => ?_)
      · refine r_p (pc' := 1097) (p_iload 6 (i := 5) (by decide +kernel) rfl) ?_
        refine r_ifne (off := 22) (tgt := 1119) (by decide +kernel) (by decide) (fun h172 => ?_) (fun h172 => ?_)
        · refine r_p (pc' := 1101) (p_aload_n 4 (k := 3) (by decide +kernel) rfl) ?_
          refine r_p (pc' := 1102) (p_iconst (n := 0) (v := 0) (by decide +kernel) rfl) ?_
          refine r_ldL (by decide +kernel) fun v173 => ?_
          refine r_p (pc' := 1105) (p_iload 0 (i := 6) (by decide +kernel) rfl) ?_
          refine r_join 1113 (fun (x175 : Int64) => [(0, vt 999), (1, vr v1), (2, vr v2), (3, vr v3), (4, vi x)]) (fun (x175 : Int64) => [vl x175, vl v173]) (fun x175 s => ?_) (fun K176 hj177 => ?_)
          · refine r_p (pc' := 1114) (p_lcmp (by decide +kernel)) ?_
            refine r_ifeq (off := 5) (tgt := 1119) (by decide +kernel) (by decide) (fun h178 => ?_) (fun h178 => ?_)
            · refine r_p (pc' := 2977) (p_goto (off := 1858) (tgt := 2977) (by decide +kernel) (by decide)) ?_
              refine r_p (pc' := 2980) (p_iinc 4 (i := 4) (n := 6) (x := x) (v := x + 6) (lv' := [(4, vi (x + 6)), (0, vt 999), (1, vr v1), (2, vr v2), (3, vr v3)]) (by decide +kernel) rfl rfl (Nat.le_of_ble_eq_true rfl) rfl) ?_
              refine r_p (pc' := 23) (p_goto (off := -2957) (tgt := 23) (by decide +kernel) (by decide)) ?_
              refine r_sub (lv' := [(0, vt 999), (1, vr v1), (2, vr v2), (3, vr v3), (4, vi (x + 6))]) [1, 2, 3, 4, 0] rfl ?_
              exact hb (x + 6) _
            · refine r_p (pc' := 1118) (p_iconst (n := 0) (v := 0) (by decide +kernel) rfl) ?_
              exact r_iret hk rfl _ rfl rfl (by decide +kernel)
          · refine r_ifeq (off := 7) (tgt := 1112) (by decide +kernel) (by decide) (fun h174 => ?_) (fun h174 => ?_)
            · refine r_p (pc' := 1113) (p_lconst (n := 0) (v := 0) (by decide +kernel) rfl) ?_
              refine r_sub (lv' := [(0, vt 999), (1, vr v1), (2, vr v2), (3, vr v3), (4, vi x)]) [1, 2, 3, 4, 5] rfl ?_
              exact hj177 0 _
            · refine r_p (pc' := 1109) (p_lconst (n := 1) (v := 1) (by decide +kernel) rfl) ?_
              refine r_p (pc' := 1113) (p_goto (off := 4) (tgt := 1113) (by decide +kernel) (by decide)) ?_
              refine r_sub (lv' := [(0, vt 999), (1, vr v1), (2, vr v2), (3, vr v3), (4, vi x)]) [1, 2, 3, 4, 5] rfl ?_
              exact hj177 1 _
        · refine r_p (pc' := 2977) (p_goto (off := 1858) (tgt := 2977) (by decide +kernel) (by decide)) ?_
          refine r_p (pc' := 2980) (p_iinc 5 (i := 4) (n := 6) (x := x) (v := x + 6) (lv' := [(4, vi (x + 6)), (6, vi v169), (0, vt 999), (1, vr v1), (2, vr v2), (3, vr v3), (5, vi v162)]) (by decide +kernel) rfl rfl (Nat.le_of_ble_eq_true rfl) rfl) ?_
          refine r_p (pc' := 23) (p_goto (off := -2957) (tgt := 23) (by decide +kernel) (by decide)) ?_
          refine r_sub (lv' := [(0, vt 999), (1, vr v1), (2, vr v2), (3, vr v3), (4, vi (x + 6))]) [2, 3, 4, 5, 0] rfl ?_
          exact hb (x + 6) _
      · refine r_p (pc' := 1094) (p_iconst (n := 0) (v := 0) (by decide +kernel) rfl) ?_
        exact r_iret hk rfl _ rfl rfl (by decide +kernel)
    · refine r_ifeq (off := 7) (tgt := 1078) (by decide +kernel) (by decide) (fun h165 => ?_) (fun h165 => ?_)
      · refine r_p (pc' := 1079) (p_iconst (n := 0) (v := 0) (by decide +kernel) rfl) ?_
        refine r_sub (lv' := [(0, vt 999), (1, vr v1), (2, vr v2), (3, vr v3), (4, vi x), (5, vi v162)]) [1, 2, 3, 4, 5, 0] rfl ?_
        exact hj168 0 _
      · refine r_p (pc' := 1075) (p_iconst (n := 1) (v := 1) (by decide +kernel) rfl) ?_
        refine r_p (pc' := 1079) (p_goto (off := 4) (tgt := 1079) (by decide +kernel) (by decide)) ?_
        refine r_sub (lv' := [(0, vt 999), (1, vr v1), (2, vr v2), (3, vr v3), (4, vi x), (5, vi v162)]) [1, 2, 3, 4, 5, 0] rfl ?_
        exact hj168 1 _
  · refine r_ifeq (off := 7) (tgt := 1051) (by decide +kernel) (by decide) (fun h158 => ?_) (fun h158 => ?_)
    · refine r_p (pc' := 1052) (p_iconst (n := 0) (v := 0) (by decide +kernel) rfl) ?_
      exact hj161 0 _
    · refine r_p (pc' := 1048) (p_iconst (n := 1) (v := 1) (by decide +kernel) rfl) ?_
      refine r_p (pc' := 1052) (p_goto (off := 4) (tgt := 1052) (by decide +kernel) (by decide)) ?_
      exact hj161 1 _
set_option maxHeartbeats 4000000 in
set_option maxRecDepth 100000 in
theorem rmL_main_c14 (n0 : Nat) (xs : Nat → Int32) (v1 : Nat) (v2 : Nat) (v3 : Nat) (x : Int32) (v6 : Int32) (Y : DyA) (hx : wX (yW Y) = xs ∧ wL (yW Y) = n0) (K : Int32 ⊕ (Unit ⊕ Unit) → MM Int32) (hb : ∀ (x : Int32) (s : aS), Rr aL_main Y 23 [(0, vt 999), (1, vr v1), (2, vr v2), (3, vr v3), (4, vi x)] [] (mret (.inl x) : MM (Int32 ⊕ (Unit ⊕ Unit))) K rI s) (hk : K (.inr (.inr ())) = mret 0) (hk1 : K (.inr (.inl ())) = mret 1) (s : aS) : Rr aL_main Y 1122 [(0, vt 999), (1, vr v1), (2, vr v2), (3, vr v3), (4, vi x)] [] (mL_main_c14 n0 xs v1 v2 v3 x) K rI s := by
  unfold mL_main_c14
  refine r_p (pc' := 1123) (p_aload_n 1 (k := 1) (by decide +kernel) rfl) ?_
  refine r_p (pc' := 1124) (p_tload_n 0 (k := 0) (Nat.le_of_ble_eq_true rfl) (by decide +kernel) rfl) ?_
  refine r_p (pc' := 1126) (p_iload 4 (i := 4) (by decide +kernel) rfl) ?_
  refine r_p (pc' := 1127) (p_iconst (n := 1) (v := 1) (by decide +kernel) rfl) ?_
  refine r_p (pc' := 1128) (p_iadd (by decide +kernel)) ?_
  refine r_sldx (by decide +kernel) hx fun v180 => ?_
  refine r_p (pc' := 1130) (p_aload_n 3 (k := 3) (by decide +kernel) rfl) ?_
  refine r_callSH msL_193 (ctL_days v1 v180 v3) (as := [vr v1, vi v180, vr v3]) (st := []) rfl rfl (by decide +kernel) rfl (Nat.le_of_ble_eq_true rfl) (Nat.le_of_ble_eq_true rfl) fun v181 s => ?_
  refine r_p (pc' := 1135) (p_istore (i := 5) (lv' := [(5, vi v181), (0, vt 999), (1, vr v1), (2, vr v2), (3, vr v3), (4, vi x)]) (by decide +kernel) (Nat.le_of_ble_eq_true rfl) rfl) ?_
  refine r_p (pc' := 1136) (p_aload_n 3 (k := 2) (by decide +kernel) rfl) ?_
  refine r_p (pc' := 1137) (p_tload_n 1 (k := 0) (Nat.le_of_ble_eq_true rfl) (by decide +kernel) rfl) ?_
  refine r_p (pc' := 1139) (p_iload 5 (i := 4) (by decide +kernel) rfl) ?_
  refine r_p (pc' := 1140) (p_iconst (n := 1) (v := 1) (by decide +kernel) rfl) ?_
  refine r_p (pc' := 1141) (p_iadd (by decide +kernel)) ?_
  refine r_sldx (by decide +kernel) hx fun v182 => ?_
  refine r_callVI mvL_195 (ctX12_days v2 v182) (rcX12_days v2 v182) ⟨_, _, rfl⟩ (as := [vi v182]) (st := []) rfl rfl (by decide +kernel) rfl (Nat.le_of_ble_eq_true rfl) (Nat.le_of_ble_eq_true rfl) fun v183 s => ?_
  refine r_p (pc' := 1147) (p_istore (i := 6) (lv' := [(6, vi v183), (5, vi v181), (0, vt 999), (1, vr v1), (2, vr v2), (3, vr v3), (4, vi x)]) (by decide +kernel) (Nat.le_of_ble_eq_true rfl) rfl) ?_
  refine r_p (pc' := 1148) (p_aload_n 4 (k := 2) (by decide +kernel) rfl) ?_
  refine r_callVI mvL_151 (ctX12_thrown v2) (rcX12_thrown v2) ⟨_, _, rfl⟩ (as := []) (st := []) rfl rfl (by decide +kernel) rfl (Nat.le_of_ble_eq_true rfl) (Nat.le_of_ble_eq_true rfl) fun v184 s => ?_
  refine r_p (pc' := 1153) (p_iload 1 (i := 5) (by decide +kernel) rfl) ?_
  refine r_icmpeq (off := 5) (tgt := 1158) (by decide +kernel) (by decide) (fun h185 => ?_) (fun h185 => ?_)
  · refine r_p (pc' := 1160) (p_iload 1 (i := 5) (by decide +kernel) rfl) ?_
    refine r_ifne (off := 15) (tgt := 1175) (by decide +kernel) (by decide) (fun h186 => ?_) (fun h186 => ?_)
    · refine r_p (pc' := 1164) (p_aload_n 5 (k := 3) (by decide +kernel) rfl) ?_
      refine r_p (pc' := 1165) (p_iconst (n := 0) (v := 0) (by decide +kernel) rfl) ?_
      refine r_ldL (by decide +kernel) fun v187 => ?_
      refine r_p (pc' := 1168) (p_iload 0 (i := 6) (by decide +kernel) rfl) ?_
      refine r_p (pc' := 1169) (p_i2l (by decide +kernel)) ?_
      refine r_p (pc' := 1170) (p_lcmp (by decide +kernel)) ?_
      refine r_ifeq (off := 5) (tgt := 1175) (by decide +kernel) (by decide) (fun h188 => ?_) (fun h188 => ?_)
      · refine r_p (pc' := 2977) (p_goto (off := 1802) (tgt := 2977) (by decide +kernel) (by decide)) ?_
        refine r_p (pc' := 2980) (p_iinc 6 (i := 4) (n := 6) (x := x) (v := x + 6) (lv' := [(4, vi (x + 6)), (6, vi v183), (5, vi v181), (0, vt 999), (1, vr v1), (2, vr v2), (3, vr v3)]) (by decide +kernel) rfl rfl (Nat.le_of_ble_eq_true rfl) rfl) ?_
        refine r_p (pc' := 23) (p_goto (off := -2957) (tgt := 23) (by decide +kernel) (by decide)) ?_
        refine r_sub (lv' := [(0, vt 999), (1, vr v1), (2, vr v2), (3, vr v3), (4, vi (x + 6))]) [3, 4, 5, 6, 0] rfl ?_
        exact hb (x + 6) _
      · refine r_p (pc' := 1174) (p_iconst (n := 0) (v := 0) (by decide +kernel) rfl) ?_
        exact r_iret hk rfl _ rfl rfl (by decide +kernel)
    · refine r_p (pc' := 2977) (p_goto (off := 1802) (tgt := 2977) (by decide +kernel) (by decide)) ?_
      refine r_p (pc' := 2980) (p_iinc 6 (i := 4) (n := 6) (x := x) (v := x + 6) (lv' := [(4, vi (x + 6)), (6, vi v183), (5, vi v181), (0, vt 999), (1, vr v1), (2, vr v2), (3, vr v3)]) (by decide +kernel) rfl rfl (Nat.le_of_ble_eq_true rfl) rfl) ?_
      refine r_p (pc' := 23) (p_goto (off := -2957) (tgt := 23) (by decide +kernel) (by decide)) ?_
      refine r_sub (lv' := [(0, vt 999), (1, vr v1), (2, vr v2), (3, vr v3), (4, vi (x + 6))]) [3, 4, 5, 6, 0] rfl ?_
      exact hb (x + 6) _
  · refine r_p (pc' := 1157) (p_iconst (n := 0) (v := 0) (by decide +kernel) rfl) ?_
    exact r_iret hk rfl _ rfl rfl (by decide +kernel)
set_option maxHeartbeats 4000000 in
set_option maxRecDepth 100000 in
theorem rmL_main_c15 (n0 : Nat) (xs : Nat → Int32) (v1 : Nat) (v2 : Nat) (v3 : Nat) (x : Int32) (v6 : Int32) (Y : DyA) (hx : wX (yW Y) = xs ∧ wL (yW Y) = n0) (K : Int32 ⊕ (Unit ⊕ Unit) → MM Int32) (hb : ∀ (x : Int32) (s : aS), Rr aL_main Y 23 [(0, vt 999), (1, vr v1), (2, vr v2), (3, vr v3), (4, vi x)] [] (mret (.inl x) : MM (Int32 ⊕ (Unit ⊕ Unit))) K rI s) (hk : K (.inr (.inr ())) = mret 0) (hk1 : K (.inr (.inl ())) = mret 1) (s : aS) : Rr aL_main Y 1178 [(0, vt 999), (1, vr v1), (2, vr v2), (3, vr v3), (4, vi x)] [] (mL_main_c15 v1 v2 x) K rI s := by
  unfold mL_main_c15
  refine r_p (pc' := 1179) (p_aload_n 1 (k := 1) (by decide +kernel) rfl) ?_
  refine r_callVI mvL_196 (ctX11_guilty v1) (rcX11_guilty v1) ⟨_, _, rfl⟩ (as := []) (st := []) rfl rfl (by decide +kernel) rfl (Nat.le_of_ble_eq_true rfl) (Nat.le_of_ble_eq_true rfl) fun v190 s => ?_
  refine r_p (pc' := 1183) (p_aload_n 2 (k := 2) (by decide +kernel) rfl) ?_
  refine r_callVI mvL_199 (ctX12_guilty v2) (rcX12_guilty v2) ⟨_, _, rfl⟩ (as := []) (st := [vi v190]) rfl rfl (by decide +kernel) rfl (Nat.le_of_ble_eq_true rfl) (Nat.le_of_ble_eq_true rfl) fun v191 s => ?_
  refine r_icmpeq (off := 1791) (tgt := 2977) (by decide +kernel) (by decide) (fun h192 => ?_) (fun h192 => ?_)
  · refine r_p (pc' := 2980) (p_iinc 4 (i := 4) (n := 6) (x := x) (v := x + 6) (lv' := [(4, vi (x + 6)), (0, vt 999), (1, vr v1), (2, vr v2), (3, vr v3)]) (by decide +kernel) rfl rfl (Nat.le_of_ble_eq_true rfl) rfl) ?_
    refine r_p (pc' := 23) (p_goto (off := -2957) (tgt := 23) (by decide +kernel) (by decide)) ?_
    refine r_sub (lv' := [(0, vt 999), (1, vr v1), (2, vr v2), (3, vr v3), (4, vi (x + 6))]) [1, 2, 3, 4, 0] rfl ?_
    exact hb (x + 6) _
  · refine r_p (pc' := 1190) (p_iconst (n := 0) (v := 0) (by decide +kernel) rfl) ?_
    exact r_iret hk rfl _ rfl rfl (by decide +kernel)
set_option maxHeartbeats 4000000 in
set_option maxRecDepth 100000 in
theorem rmL_main_c16 (n0 : Nat) (xs : Nat → Int32) (v1 : Nat) (v2 : Nat) (v3 : Nat) (x : Int32) (v6 : Int32) (Y : DyA) (hx : wX (yW Y) = xs ∧ wL (yW Y) = n0) (K : Int32 ⊕ (Unit ⊕ Unit) → MM Int32) (hb : ∀ (x : Int32) (s : aS), Rr aL_main Y 23 [(0, vt 999), (1, vr v1), (2, vr v2), (3, vr v3), (4, vi x)] [] (mret (.inl x) : MM (Int32 ⊕ (Unit ⊕ Unit))) K rI s) (hk : K (.inr (.inr ())) = mret 0) (hk1 : K (.inr (.inl ())) = mret 1) (s : aS) : Rr aL_main Y 1191 [(0, vt 999), (1, vr v1), (2, vr v2), (3, vr v3), (4, vi x)] [] (mL_main_c16 n0 xs v1 v2 v3 x) K rI s := by
  unfold mL_main_c16
  refine r_p (pc' := 1192) (p_aload_n 1 (k := 1) (by decide +kernel) rfl) ?_
  refine r_p (pc' := 1193) (p_tload_n 0 (k := 0) (Nat.le_of_ble_eq_true rfl) (by decide +kernel) rfl) ?_
  refine r_p (pc' := 1195) (p_iload 4 (i := 4) (by decide +kernel) rfl) ?_
  refine r_p (pc' := 1196) (p_iconst (n := 1) (v := 1) (by decide +kernel) rfl) ?_
  refine r_p (pc' := 1197) (p_iadd (by decide +kernel)) ?_
  refine r_sldx (by decide +kernel) hx fun v194 => ?_
  refine r_p (pc' := 1199) (p_tload_n 0 (k := 0) (Nat.le_of_ble_eq_true rfl) (by decide +kernel) rfl) ?_
  refine r_p (pc' := 1201) (p_iload 4 (i := 4) (by decide +kernel) rfl) ?_
  refine r_p (pc' := 1202) (p_iconst (n := 2) (v := 2) (by decide +kernel) rfl) ?_
  refine r_p (pc' := 1203) (p_iadd (by decide +kernel)) ?_
  refine r_sldx (by decide +kernel) hx fun v195 => ?_
  refine r_p (pc' := 1205) (p_tload_n 0 (k := 0) (Nat.le_of_ble_eq_true rfl) (by decide +kernel) rfl) ?_
  refine r_p (pc' := 1207) (p_iload 4 (i := 4) (by decide +kernel) rfl) ?_
  refine r_p (pc' := 1208) (p_iconst (n := 3) (v := 3) (by decide +kernel) rfl) ?_
  refine r_p (pc' := 1209) (p_iadd (by decide +kernel)) ?_
  refine r_sldx (by decide +kernel) hx fun v196 => ?_
  refine r_p (pc' := 1211) (p_aload_n 3 (k := 3) (by decide +kernel) rfl) ?_
  refine r_callSH msL_200 (ctL_culprits v1 v194 v195 v196 v3) (as := [vr v1, vi v194, vi v195, vi v196, vr v3]) (st := []) rfl rfl (by decide +kernel) rfl (Nat.le_of_ble_eq_true rfl) (Nat.le_of_ble_eq_true rfl) fun v197 s => ?_
  refine r_p (pc' := 1216) (p_istore (i := 5) (lv' := [(5, vi v197), (0, vt 999), (1, vr v1), (2, vr v2), (3, vr v3), (4, vi x)]) (by decide +kernel) (Nat.le_of_ble_eq_true rfl) rfl) ?_
  refine r_p (pc' := 1217) (p_aload_n 3 (k := 2) (by decide +kernel) rfl) ?_
  refine r_p (pc' := 1218) (p_tload_n 1 (k := 0) (Nat.le_of_ble_eq_true rfl) (by decide +kernel) rfl) ?_
  refine r_p (pc' := 1220) (p_iload 5 (i := 4) (by decide +kernel) rfl) ?_
  refine r_p (pc' := 1221) (p_iconst (n := 1) (v := 1) (by decide +kernel) rfl) ?_
  refine r_p (pc' := 1222) (p_iadd (by decide +kernel)) ?_
  refine r_sldx (by decide +kernel) hx fun v198 => ?_
  refine r_p (pc' := 1224) (p_tload_n 1 (k := 0) (Nat.le_of_ble_eq_true rfl) (by decide +kernel) rfl) ?_
  refine r_p (pc' := 1226) (p_iload 5 (i := 4) (by decide +kernel) rfl) ?_
  refine r_p (pc' := 1227) (p_iconst (n := 2) (v := 2) (by decide +kernel) rfl) ?_
  refine r_p (pc' := 1228) (p_iadd (by decide +kernel)) ?_
  refine r_sldx (by decide +kernel) hx fun v199 => ?_
  refine r_p (pc' := 1230) (p_tload_n 1 (k := 0) (Nat.le_of_ble_eq_true rfl) (by decide +kernel) rfl) ?_
  refine r_p (pc' := 1232) (p_iload 5 (i := 4) (by decide +kernel) rfl) ?_
  refine r_p (pc' := 1233) (p_iconst (n := 3) (v := 3) (by decide +kernel) rfl) ?_
  refine r_p (pc' := 1234) (p_iadd (by decide +kernel)) ?_
  refine r_sldx (by decide +kernel) hx fun v200 => ?_
  refine r_callVI mvL_202 (ctX12_culprits v2 v198 v199 v200) (rcX12_culprits v2 v198 v199 v200) ⟨_, _, rfl⟩ (as := [vi v198, vi v199, vi v200]) (st := []) rfl rfl (by decide +kernel) rfl (Nat.le_of_ble_eq_true rfl) (Nat.le_of_ble_eq_true rfl) fun v201 s => ?_
  refine r_p (pc' := 1240) (p_istore (i := 6) (lv' := [(6, vi v201), (5, vi v197), (0, vt 999), (1, vr v1), (2, vr v2), (3, vr v3), (4, vi x)]) (by decide +kernel) (Nat.le_of_ble_eq_true rfl) rfl) ?_
  refine r_p (pc' := 1241) (p_aload_n 4 (k := 2) (by decide +kernel) rfl) ?_
  refine r_callVI mvL_151 (ctX12_thrown v2) (rcX12_thrown v2) ⟨_, _, rfl⟩ (as := []) (st := []) rfl rfl (by decide +kernel) rfl (Nat.le_of_ble_eq_true rfl) (Nat.le_of_ble_eq_true rfl) fun v202 s => ?_
  refine r_p (pc' := 1246) (p_iload 1 (i := 5) (by decide +kernel) rfl) ?_
  refine r_icmpeq (off := 5) (tgt := 1251) (by decide +kernel) (by decide) (fun h203 => ?_) (fun h203 => ?_)
  · refine r_p (pc' := 1253) (p_iload 1 (i := 5) (by decide +kernel) rfl) ?_
    refine r_ifne (off := 15) (tgt := 1268) (by decide +kernel) (by decide) (fun h204 => ?_) (fun h204 => ?_)
    · refine r_p (pc' := 1257) (p_aload_n 5 (k := 3) (by decide +kernel) rfl) ?_
      refine r_p (pc' := 1258) (p_iconst (n := 0) (v := 0) (by decide +kernel) rfl) ?_
      refine r_ldL (by decide +kernel) fun v205 => ?_
      refine r_p (pc' := 1261) (p_iload 0 (i := 6) (by decide +kernel) rfl) ?_
      refine r_p (pc' := 1262) (p_i2l (by decide +kernel)) ?_
      refine r_p (pc' := 1263) (p_lcmp (by decide +kernel)) ?_
      refine r_ifeq (off := 5) (tgt := 1268) (by decide +kernel) (by decide) (fun h206 => ?_) (fun h206 => ?_)
      · refine r_p (pc' := 2977) (p_goto (off := 1709) (tgt := 2977) (by decide +kernel) (by decide)) ?_
        refine r_p (pc' := 2980) (p_iinc 6 (i := 4) (n := 6) (x := x) (v := x + 6) (lv' := [(4, vi (x + 6)), (6, vi v201), (5, vi v197), (0, vt 999), (1, vr v1), (2, vr v2), (3, vr v3)]) (by decide +kernel) rfl rfl (Nat.le_of_ble_eq_true rfl) rfl) ?_
        refine r_p (pc' := 23) (p_goto (off := -2957) (tgt := 23) (by decide +kernel) (by decide)) ?_
        refine r_sub (lv' := [(0, vt 999), (1, vr v1), (2, vr v2), (3, vr v3), (4, vi (x + 6))]) [3, 4, 5, 6, 0] rfl ?_
        exact hb (x + 6) _
      · refine r_p (pc' := 1267) (p_iconst (n := 0) (v := 0) (by decide +kernel) rfl) ?_
        exact r_iret hk rfl _ rfl rfl (by decide +kernel)
    · refine r_p (pc' := 2977) (p_goto (off := 1709) (tgt := 2977) (by decide +kernel) (by decide)) ?_
      refine r_p (pc' := 2980) (p_iinc 6 (i := 4) (n := 6) (x := x) (v := x + 6) (lv' := [(4, vi (x + 6)), (6, vi v201), (5, vi v197), (0, vt 999), (1, vr v1), (2, vr v2), (3, vr v3)]) (by decide +kernel) rfl rfl (Nat.le_of_ble_eq_true rfl) rfl) ?_
      refine r_p (pc' := 23) (p_goto (off := -2957) (tgt := 23) (by decide +kernel) (by decide)) ?_
      refine r_sub (lv' := [(0, vt 999), (1, vr v1), (2, vr v2), (3, vr v3), (4, vi (x + 6))]) [3, 4, 5, 6, 0] rfl ?_
      exact hb (x + 6) _
  · refine r_p (pc' := 1250) (p_iconst (n := 0) (v := 0) (by decide +kernel) rfl) ?_
    exact r_iret hk rfl _ rfl rfl (by decide +kernel)
set_option maxHeartbeats 4000000 in
set_option maxRecDepth 100000 in
theorem rmL_main_c17 (n0 : Nat) (xs : Nat → Int32) (v1 : Nat) (v2 : Nat) (v3 : Nat) (x : Int32) (v6 : Int32) (Y : DyA) (hx : wX (yW Y) = xs ∧ wL (yW Y) = n0) (K : Int32 ⊕ (Unit ⊕ Unit) → MM Int32) (hb : ∀ (x : Int32) (s : aS), Rr aL_main Y 23 [(0, vt 999), (1, vr v1), (2, vr v2), (3, vr v3), (4, vi x)] [] (mret (.inl x) : MM (Int32 ⊕ (Unit ⊕ Unit))) K rI s) (hk : K (.inr (.inr ())) = mret 0) (hk1 : K (.inr (.inl ())) = mret 1) (s : aS) : Rr aL_main Y 1271 [(0, vt 999), (1, vr v1), (2, vr v2), (3, vr v3), (4, vi x)] [] (mL_main_c17 n0 xs v1 v2 x) K rI s := by
  unfold mL_main_c17
  refine r_p (pc' := 1272) (p_aload_n 1 (k := 1) (by decide +kernel) rfl) ?_
  refine r_p (pc' := 1273) (p_tload_n 0 (k := 0) (Nat.le_of_ble_eq_true rfl) (by decide +kernel) rfl) ?_
  refine r_p (pc' := 1275) (p_iload 4 (i := 4) (by decide +kernel) rfl) ?_
  refine r_p (pc' := 1276) (p_iconst (n := 1) (v := 1) (by decide +kernel) rfl) ?_
  refine r_p (pc' := 1277) (p_iadd (by decide +kernel)) ?_
  refine r_sldx (by decide +kernel) hx fun v208 => ?_
  refine r_join 1286 (fun (x210 : Int32) => [(0, vt 999), (1, vr v1), (2, vr v2), (3, vr v3), (4, vi x)]) (fun (x210 : Int32) => [vi x210, vr v1]) (fun x210 s => ?_) (fun K211 hj212 => ?_)
  · refine r_callVI mvL_203 (ctX11_ask v1 x210) (rcX11_ask v1 x210) ⟨_, _, rfl⟩ (as := [vi x210]) (st := []) rfl rfl (by decide +kernel) rfl (Nat.le_of_ble_eq_true rfl) (Nat.le_of_ble_eq_true rfl) fun v213 s => ?_
    refine r_p (pc' := 1290) (p_aload_n 2 (k := 2) (by decide +kernel) rfl) ?_
    refine r_p (pc' := 1291) (p_tload_n 0 (k := 0) (Nat.le_of_ble_eq_true rfl) (by decide +kernel) rfl) ?_
    refine r_p (pc' := 1293) (p_iload 4 (i := 4) (by decide +kernel) rfl) ?_
    refine r_p (pc' := 1294) (p_iconst (n := 1) (v := 1) (by decide +kernel) rfl) ?_
    refine r_p (pc' := 1295) (p_iadd (by decide +kernel)) ?_
    refine r_sldx (by decide +kernel) hx fun v214 => ?_
    refine r_join 1304 (fun (x216 : Int32) => [(0, vt 999), (1, vr v1), (2, vr v2), (3, vr v3), (4, vi x)]) (fun (x216 : Int32) => [vi x216, vr v2, vi v213]) (fun x216 s => ?_) (fun K217 hj218 => ?_)
    · refine r_callVI mvL_206 (ctX12_ask v2 x216) (rcX12_ask v2 x216) ⟨_, _, rfl⟩ (as := [vi x216]) (st := [vi v213]) rfl rfl (by decide +kernel) rfl (Nat.le_of_ble_eq_true rfl) (Nat.le_of_ble_eq_true rfl) fun v219 s => ?_
      refine r_icmpeq (off := 1670) (tgt := 2977) (by decide +kernel) (by decide) (fun h220 => ?_) (fun h220 => ?_)
      · refine r_p (pc' := 2980) (p_iinc 4 (i := 4) (n := 6) (x := x) (v := x + 6) (lv' := [(4, vi (x + 6)), (0, vt 999), (1, vr v1), (2, vr v2), (3, vr v3)]) (by decide +kernel) rfl rfl (Nat.le_of_ble_eq_true rfl) rfl) ?_
        refine r_p (pc' := 23) (p_goto (off := -2957) (tgt := 23) (by decide +kernel) (by decide)) ?_
        refine r_sub (lv' := [(0, vt 999), (1, vr v1), (2, vr v2), (3, vr v3), (4, vi (x + 6))]) [1, 2, 3, 4, 0] rfl ?_
        exact hb (x + 6) _
      · refine r_p (pc' := 1311) (p_iconst (n := 0) (v := 0) (by decide +kernel) rfl) ?_
        exact r_iret hk rfl _ rfl rfl (by decide +kernel)
    · refine r_ifeq (off := 7) (tgt := 1303) (by decide +kernel) (by decide) (fun h215 => ?_) (fun h215 => ?_)
      · refine r_p (pc' := 1304) (p_iconst (n := 0) (v := 0) (by decide +kernel) rfl) ?_
        exact hj218 0 _
      · refine r_p (pc' := 1300) (p_iconst (n := 1) (v := 1) (by decide +kernel) rfl) ?_
        refine r_p (pc' := 1304) (p_goto (off := 4) (tgt := 1304) (by decide +kernel) (by decide)) ?_
        exact hj218 1 _
  · refine r_ifeq (off := 7) (tgt := 1285) (by decide +kernel) (by decide) (fun h209 => ?_) (fun h209 => ?_)
    · refine r_p (pc' := 1286) (p_iconst (n := 0) (v := 0) (by decide +kernel) rfl) ?_
      exact hj212 0 _
    · refine r_p (pc' := 1282) (p_iconst (n := 1) (v := 1) (by decide +kernel) rfl) ?_
      refine r_p (pc' := 1286) (p_goto (off := 4) (tgt := 1286) (by decide +kernel) (by decide)) ?_
      exact hj212 1 _
set_option maxHeartbeats 4000000 in
set_option maxRecDepth 100000 in
theorem rmL_main_c18 (n0 : Nat) (xs : Nat → Int32) (v1 : Nat) (v2 : Nat) (v3 : Nat) (x : Int32) (v6 : Int32) (Y : DyA) (hx : wX (yW Y) = xs ∧ wL (yW Y) = n0) (K : Int32 ⊕ (Unit ⊕ Unit) → MM Int32) (hb : ∀ (x : Int32) (s : aS), Rr aL_main Y 23 [(0, vt 999), (1, vr v1), (2, vr v2), (3, vr v3), (4, vi x)] [] (mret (.inl x) : MM (Int32 ⊕ (Unit ⊕ Unit))) K rI s) (hk : K (.inr (.inr ())) = mret 0) (hk1 : K (.inr (.inl ())) = mret 1) (s : aS) : Rr aL_main Y 1312 [(0, vt 999), (1, vr v1), (2, vr v2), (3, vr v3), (4, vi x)] [] (mL_main_c18 n0 xs v1 v2 v3 x) K rI s := by
  unfold mL_main_c18
  refine r_p (pc' := 1313) (p_aload_n 1 (k := 1) (by decide +kernel) rfl) ?_
  refine r_p (pc' := 1314) (p_tload_n 0 (k := 0) (Nat.le_of_ble_eq_true rfl) (by decide +kernel) rfl) ?_
  refine r_p (pc' := 1316) (p_iload 4 (i := 4) (by decide +kernel) rfl) ?_
  refine r_p (pc' := 1317) (p_iconst (n := 1) (v := 1) (by decide +kernel) rfl) ?_
  refine r_p (pc' := 1318) (p_iadd (by decide +kernel)) ?_
  refine r_sldx (by decide +kernel) hx fun v222 => ?_
  refine r_p (pc' := 1320) (p_tload_n 0 (k := 0) (Nat.le_of_ble_eq_true rfl) (by decide +kernel) rfl) ?_
  refine r_p (pc' := 1322) (p_iload 4 (i := 4) (by decide +kernel) rfl) ?_
  refine r_p (pc' := 1323) (p_iconst (n := 2) (v := 2) (by decide +kernel) rfl) ?_
  refine r_p (pc' := 1324) (p_iadd (by decide +kernel)) ?_
  refine r_sldx (by decide +kernel) hx fun v223 => ?_
  refine r_join 1333 (fun (x225 : Int32) => [(0, vt 999), (1, vr v1), (2, vr v2), (3, vr v3), (4, vi x)]) (fun (x225 : Int32) => [vi x225, vi v222, vr v1]) (fun x225 s => ?_) (fun K226 hj227 => ?_)
  · refine r_p (pc' := 1334) (p_aload_n 3 (k := 3) (by decide +kernel) rfl) ?_
    refine r_callSH msL_207 (ctL_laundered v1 v222 x225 v3) (as := [vr v1, vi v222, vi x225, vr v3]) (st := []) rfl rfl (by decide +kernel) rfl (Nat.le_of_ble_eq_true rfl) (Nat.le_of_ble_eq_true rfl) fun v228 s => ?_
    refine r_p (pc' := 1339) (p_istore (i := 5) (lv' := [(5, vi v228), (0, vt 999), (1, vr v1), (2, vr v2), (3, vr v3), (4, vi x)]) (by decide +kernel) (Nat.le_of_ble_eq_true rfl) rfl) ?_
    refine r_p (pc' := 1340) (p_aload_n 3 (k := 2) (by decide +kernel) rfl) ?_
    refine r_p (pc' := 1341) (p_tload_n 1 (k := 0) (Nat.le_of_ble_eq_true rfl) (by decide +kernel) rfl) ?_
    refine r_p (pc' := 1343) (p_iload 5 (i := 4) (by decide +kernel) rfl) ?_
    refine r_p (pc' := 1344) (p_iconst (n := 1) (v := 1) (by decide +kernel) rfl) ?_
    refine r_p (pc' := 1345) (p_iadd (by decide +kernel)) ?_
    refine r_sldx (by decide +kernel) hx fun v229 => ?_
    refine r_p (pc' := 1347) (p_tload_n 1 (k := 0) (Nat.le_of_ble_eq_true rfl) (by decide +kernel) rfl) ?_
    refine r_p (pc' := 1349) (p_iload 5 (i := 4) (by decide +kernel) rfl) ?_
    refine r_p (pc' := 1350) (p_iconst (n := 2) (v := 2) (by decide +kernel) rfl) ?_
    refine r_p (pc' := 1351) (p_iadd (by decide +kernel)) ?_
    refine r_sldx (by decide +kernel) hx fun v230 => ?_
    refine r_join 1360 (fun (x232 : Int32) => [(0, vt 999), (1, vr v1), (2, vr v2), (3, vr v3), (4, vi x), (5, vi v228)]) (fun (x232 : Int32) => [vi x232, vi v229, vr v2]) (fun x232 s => ?_) (fun K233 hj234 => ?_)
    · refine r_callVI mvL_209 (ctX12_laundered v2 v229 x232) (rcX12_laundered v2 v229 x232) ⟨_, _, rfl⟩ (as := [vi v229, vi x232]) (st := []) rfl rfl (by decide +kernel) rfl (Nat.le_of_ble_eq_true rfl) (Nat.le_of_ble_eq_true rfl) fun v235 s => ?_
      refine r_p (pc' := 1365) (p_istore (i := 6) (lv' := [(6, vi v235), (0, vt 999), (1, vr v1), (2, vr v2), (3, vr v3), (4, vi x), (5, vi v228)]) (by decide +kernel) (Nat.le_of_ble_eq_true rfl) rfl) ?_
      refine r_p (pc' := 1366) (p_aload_n 3 (k := 2) (by decide +kernel) rfl) ?_
      refine r_callVI mvL_151 (ctX12_thrown v2) (rcX12_thrown v2) ⟨_, _, rfl⟩ (as := []) (st := []) rfl rfl (by decide +kernel) rfl (Nat.le_of_ble_eq_true rfl) (Nat.le_of_ble_eq_true rfl) fun v236 s => ?_
      refine r_p (pc' := 1371) (p_iload 6 (i := 5) (by decide +kernel) rfl) ?_
      refine r_icmpeq (off := 5) (tgt := 1376) (by decide +kernel) (by decide) (fun h237 => ?_) (fun h237 => ?_)
      · refine r_p (pc' := 1378) (p_iload 6 (i := 5) (by decide +kernel) rfl) ?_
        refine r_ifne (off := 15) (tgt := 1393) (by decide +kernel) (by decide) (fun h238 => ?_) (fun h238 => ?_)
        · refine r_p (pc' := 1382) (p_aload_n 4 (k := 3) (by decide +kernel) rfl) ?_
          refine r_p (pc' := 1383) (p_iconst (n := 0) (v := 0) (by decide +kernel) rfl) ?_
          refine r_ldL (by decide +kernel) fun v239 => ?_
          refine r_p (pc' := 1386) (p_iload 0 (i := 6) (by decide +kernel) rfl) ?_
          refine r_p (pc' := 1387) (p_i2l (by decide +kernel)) ?_
          refine r_p (pc' := 1388) (p_lcmp (by decide +kernel)) ?_
          refine r_ifeq (off := 5) (tgt := 1393) (by decide +kernel) (by decide) (fun h240 => ?_) (fun h240 => ?_)
          · refine r_p (pc' := 2977) (p_goto (off := 1584) (tgt := 2977) (by decide +kernel) (by decide)) ?_
            refine r_p (pc' := 2980) (p_iinc 5 (i := 4) (n := 6) (x := x) (v := x + 6) (lv' := [(4, vi (x + 6)), (6, vi v235), (0, vt 999), (1, vr v1), (2, vr v2), (3, vr v3), (5, vi v228)]) (by decide +kernel) rfl rfl (Nat.le_of_ble_eq_true rfl) rfl) ?_
            refine r_p (pc' := 23) (p_goto (off := -2957) (tgt := 23) (by decide +kernel) (by decide)) ?_
            refine r_sub (lv' := [(0, vt 999), (1, vr v1), (2, vr v2), (3, vr v3), (4, vi (x + 6))]) [2, 3, 4, 5, 0] rfl ?_
            exact hb (x + 6) _
          · refine r_p (pc' := 1392) (p_iconst (n := 0) (v := 0) (by decide +kernel) rfl) ?_
            exact r_iret hk rfl _ rfl rfl (by decide +kernel)
        · refine r_p (pc' := 2977) (p_goto (off := 1584) (tgt := 2977) (by decide +kernel) (by decide)) ?_
          refine r_p (pc' := 2980) (p_iinc 5 (i := 4) (n := 6) (x := x) (v := x + 6) (lv' := [(4, vi (x + 6)), (6, vi v235), (0, vt 999), (1, vr v1), (2, vr v2), (3, vr v3), (5, vi v228)]) (by decide +kernel) rfl rfl (Nat.le_of_ble_eq_true rfl) rfl) ?_
          refine r_p (pc' := 23) (p_goto (off := -2957) (tgt := 23) (by decide +kernel) (by decide)) ?_
          refine r_sub (lv' := [(0, vt 999), (1, vr v1), (2, vr v2), (3, vr v3), (4, vi (x + 6))]) [2, 3, 4, 5, 0] rfl ?_
          exact hb (x + 6) _
      · refine r_p (pc' := 1375) (p_iconst (n := 0) (v := 0) (by decide +kernel) rfl) ?_
        exact r_iret hk rfl _ rfl rfl (by decide +kernel)
    · refine r_ifeq (off := 7) (tgt := 1359) (by decide +kernel) (by decide) (fun h231 => ?_) (fun h231 => ?_)
      · refine r_p (pc' := 1360) (p_iconst (n := 0) (v := 0) (by decide +kernel) rfl) ?_
        refine r_sub (lv' := [(0, vt 999), (1, vr v1), (2, vr v2), (3, vr v3), (4, vi x), (5, vi v228)]) [1, 2, 3, 4, 5, 0] rfl ?_
        exact hj234 0 _
      · refine r_p (pc' := 1356) (p_iconst (n := 1) (v := 1) (by decide +kernel) rfl) ?_
        refine r_p (pc' := 1360) (p_goto (off := 4) (tgt := 1360) (by decide +kernel) (by decide)) ?_
        refine r_sub (lv' := [(0, vt 999), (1, vr v1), (2, vr v2), (3, vr v3), (4, vi x), (5, vi v228)]) [1, 2, 3, 4, 5, 0] rfl ?_
        exact hj234 1 _
  · refine r_ifeq (off := 7) (tgt := 1332) (by decide +kernel) (by decide) (fun h224 => ?_) (fun h224 => ?_)
    · refine r_p (pc' := 1333) (p_iconst (n := 0) (v := 0) (by decide +kernel) rfl) ?_
      exact hj227 0 _
    · refine r_p (pc' := 1329) (p_iconst (n := 1) (v := 1) (by decide +kernel) rfl) ?_
      refine r_p (pc' := 1333) (p_goto (off := 4) (tgt := 1333) (by decide +kernel) (by decide)) ?_
      exact hj227 1 _
set_option maxHeartbeats 4000000 in
set_option maxRecDepth 100000 in
theorem rmL_main_c19 (n0 : Nat) (xs : Nat → Int32) (v1 : Nat) (v2 : Nat) (v3 : Nat) (x : Int32) (v6 : Int32) (Y : DyA) (hx : wX (yW Y) = xs ∧ wL (yW Y) = n0) (K : Int32 ⊕ (Unit ⊕ Unit) → MM Int32) (hb : ∀ (x : Int32) (s : aS), Rr aL_main Y 23 [(0, vt 999), (1, vr v1), (2, vr v2), (3, vr v3), (4, vi x)] [] (mret (.inl x) : MM (Int32 ⊕ (Unit ⊕ Unit))) K rI s) (hk : K (.inr (.inr ())) = mret 0) (hk1 : K (.inr (.inl ())) = mret 1) (s : aS) : Rr aL_main Y 1396 [(0, vt 999), (1, vr v1), (2, vr v2), (3, vr v3), (4, vi x)] [] (mL_main_c19 n0 xs v1 v2 v3 x) K rI s := by
  unfold mL_main_c19
  refine r_p (pc' := 1397) (p_aload_n 1 (k := 1) (by decide +kernel) rfl) ?_
  refine r_p (pc' := 1398) (p_tload_n 0 (k := 0) (Nat.le_of_ble_eq_true rfl) (by decide +kernel) rfl) ?_
  refine r_p (pc' := 1400) (p_iload 4 (i := 4) (by decide +kernel) rfl) ?_
  refine r_p (pc' := 1401) (p_iconst (n := 1) (v := 1) (by decide +kernel) rfl) ?_
  refine r_p (pc' := 1402) (p_iadd (by decide +kernel)) ?_
  refine r_sldx (by decide +kernel) hx fun v242 => ?_
  refine r_p (pc' := 1404) (p_aload_n 3 (k := 3) (by decide +kernel) rfl) ?_
  refine r_callSH msL_210 (ctL_guard v1 v242 v3) (as := [vr v1, vi v242, vr v3]) (st := []) rfl rfl (by decide +kernel) rfl (Nat.le_of_ble_eq_true rfl) (Nat.le_of_ble_eq_true rfl) fun v243 s => ?_
  refine r_p (pc' := 1409) (p_istore (i := 5) (lv' := [(5, vi v243), (0, vt 999), (1, vr v1), (2, vr v2), (3, vr v3), (4, vi x)]) (by decide +kernel) (Nat.le_of_ble_eq_true rfl) rfl) ?_
  refine r_p (pc' := 1410) (p_aload_n 3 (k := 2) (by decide +kernel) rfl) ?_
  refine r_p (pc' := 1411) (p_tload_n 1 (k := 0) (Nat.le_of_ble_eq_true rfl) (by decide +kernel) rfl) ?_
  refine r_p (pc' := 1413) (p_iload 5 (i := 4) (by decide +kernel) rfl) ?_
  refine r_p (pc' := 1414) (p_iconst (n := 1) (v := 1) (by decide +kernel) rfl) ?_
  refine r_p (pc' := 1415) (p_iadd (by decide +kernel)) ?_
  refine r_sldx (by decide +kernel) hx fun v244 => ?_
  refine r_callVI mvL_212 (ctX12_guard v2 v244) (rcX12_guard v2 v244) ⟨_, _, rfl⟩ (as := [vi v244]) (st := []) rfl rfl (by decide +kernel) rfl (Nat.le_of_ble_eq_true rfl) (Nat.le_of_ble_eq_true rfl) fun v245 s => ?_
  refine r_p (pc' := 1421) (p_istore (i := 6) (lv' := [(6, vi v245), (5, vi v243), (0, vt 999), (1, vr v1), (2, vr v2), (3, vr v3), (4, vi x)]) (by decide +kernel) (Nat.le_of_ble_eq_true rfl) rfl) ?_
  refine r_p (pc' := 1422) (p_aload_n 4 (k := 2) (by decide +kernel) rfl) ?_
  refine r_callVI mvL_151 (ctX12_thrown v2) (rcX12_thrown v2) ⟨_, _, rfl⟩ (as := []) (st := []) rfl rfl (by decide +kernel) rfl (Nat.le_of_ble_eq_true rfl) (Nat.le_of_ble_eq_true rfl) fun v246 s => ?_
  refine r_p (pc' := 1427) (p_iload 1 (i := 5) (by decide +kernel) rfl) ?_
  refine r_icmpeq (off := 5) (tgt := 1432) (by decide +kernel) (by decide) (fun h247 => ?_) (fun h247 => ?_)
  · refine r_p (pc' := 1434) (p_iload 1 (i := 5) (by decide +kernel) rfl) ?_
    refine r_ifne (off := 15) (tgt := 1449) (by decide +kernel) (by decide) (fun h248 => ?_) (fun h248 => ?_)
    · refine r_p (pc' := 1438) (p_aload_n 5 (k := 3) (by decide +kernel) rfl) ?_
      refine r_p (pc' := 1439) (p_iconst (n := 0) (v := 0) (by decide +kernel) rfl) ?_
      refine r_ldL (by decide +kernel) fun v249 => ?_
      refine r_p (pc' := 1442) (p_iload 0 (i := 6) (by decide +kernel) rfl) ?_
      refine r_p (pc' := 1443) (p_i2l (by decide +kernel)) ?_
      refine r_p (pc' := 1444) (p_lcmp (by decide +kernel)) ?_
      refine r_ifeq (off := 5) (tgt := 1449) (by decide +kernel) (by decide) (fun h250 => ?_) (fun h250 => ?_)
      · refine r_p (pc' := 2977) (p_goto (off := 1528) (tgt := 2977) (by decide +kernel) (by decide)) ?_
        refine r_p (pc' := 2980) (p_iinc 6 (i := 4) (n := 6) (x := x) (v := x + 6) (lv' := [(4, vi (x + 6)), (6, vi v245), (5, vi v243), (0, vt 999), (1, vr v1), (2, vr v2), (3, vr v3)]) (by decide +kernel) rfl rfl (Nat.le_of_ble_eq_true rfl) rfl) ?_
        refine r_p (pc' := 23) (p_goto (off := -2957) (tgt := 23) (by decide +kernel) (by decide)) ?_
        refine r_sub (lv' := [(0, vt 999), (1, vr v1), (2, vr v2), (3, vr v3), (4, vi (x + 6))]) [3, 4, 5, 6, 0] rfl ?_
        exact hb (x + 6) _
      · refine r_p (pc' := 1448) (p_iconst (n := 0) (v := 0) (by decide +kernel) rfl) ?_
        exact r_iret hk rfl _ rfl rfl (by decide +kernel)
    · refine r_p (pc' := 2977) (p_goto (off := 1528) (tgt := 2977) (by decide +kernel) (by decide)) ?_
      refine r_p (pc' := 2980) (p_iinc 6 (i := 4) (n := 6) (x := x) (v := x + 6) (lv' := [(4, vi (x + 6)), (6, vi v245), (5, vi v243), (0, vt 999), (1, vr v1), (2, vr v2), (3, vr v3)]) (by decide +kernel) rfl rfl (Nat.le_of_ble_eq_true rfl) rfl) ?_
      refine r_p (pc' := 23) (p_goto (off := -2957) (tgt := 23) (by decide +kernel) (by decide)) ?_
      refine r_sub (lv' := [(0, vt 999), (1, vr v1), (2, vr v2), (3, vr v3), (4, vi (x + 6))]) [3, 4, 5, 6, 0] rfl ?_
      exact hb (x + 6) _
  · refine r_p (pc' := 1431) (p_iconst (n := 0) (v := 0) (by decide +kernel) rfl) ?_
    exact r_iret hk rfl _ rfl rfl (by decide +kernel)
set_option maxHeartbeats 4000000 in
set_option maxRecDepth 100000 in
theorem rmL_main_c20 (n0 : Nat) (xs : Nat → Int32) (v1 : Nat) (v2 : Nat) (v3 : Nat) (x : Int32) (v6 : Int32) (Y : DyA) (hx : wX (yW Y) = xs ∧ wL (yW Y) = n0) (K : Int32 ⊕ (Unit ⊕ Unit) → MM Int32) (hb : ∀ (x : Int32) (s : aS), Rr aL_main Y 23 [(0, vt 999), (1, vr v1), (2, vr v2), (3, vr v3), (4, vi x)] [] (mret (.inl x) : MM (Int32 ⊕ (Unit ⊕ Unit))) K rI s) (hk : K (.inr (.inr ())) = mret 0) (hk1 : K (.inr (.inl ())) = mret 1) (s : aS) : Rr aL_main Y 1452 [(0, vt 999), (1, vr v1), (2, vr v2), (3, vr v3), (4, vi x)] [] (mL_main_c20 n0 xs v1 v2 v3 x) K rI s := by
  unfold mL_main_c20
  refine r_p (pc' := 1453) (p_aload_n 1 (k := 1) (by decide +kernel) rfl) ?_
  refine r_p (pc' := 1454) (p_tload_n 0 (k := 0) (Nat.le_of_ble_eq_true rfl) (by decide +kernel) rfl) ?_
  refine r_p (pc' := 1456) (p_iload 4 (i := 4) (by decide +kernel) rfl) ?_
  refine r_p (pc' := 1457) (p_iconst (n := 1) (v := 1) (by decide +kernel) rfl) ?_
  refine r_p (pc' := 1458) (p_iadd (by decide +kernel)) ?_
  refine r_sldx (by decide +kernel) hx fun v252 => ?_
  refine r_p (pc' := 1460) (p_aload_n 3 (k := 3) (by decide +kernel) rfl) ?_
  refine r_callSH msL_213 (ctL_word v1 v252 v3) (as := [vr v1, vi v252, vr v3]) (st := []) rfl rfl (by decide +kernel) rfl (Nat.le_of_ble_eq_true rfl) (Nat.le_of_ble_eq_true rfl) fun v253 s => ?_
  refine r_p (pc' := 1465) (p_istore (i := 5) (lv' := [(5, vi v253), (0, vt 999), (1, vr v1), (2, vr v2), (3, vr v3), (4, vi x)]) (by decide +kernel) (Nat.le_of_ble_eq_true rfl) rfl) ?_
  refine r_p (pc' := 1466) (p_aload_n 3 (k := 2) (by decide +kernel) rfl) ?_
  refine r_p (pc' := 1467) (p_tload_n 1 (k := 0) (Nat.le_of_ble_eq_true rfl) (by decide +kernel) rfl) ?_
  refine r_p (pc' := 1469) (p_iload 5 (i := 4) (by decide +kernel) rfl) ?_
  refine r_p (pc' := 1470) (p_iconst (n := 1) (v := 1) (by decide +kernel) rfl) ?_
  refine r_p (pc' := 1471) (p_iadd (by decide +kernel)) ?_
  refine r_sldx (by decide +kernel) hx fun v254 => ?_
  refine r_callVI mvL_215 (ctX12_word v2 v254) (rcX12_word v2 v254) ⟨_, _, rfl⟩ (as := [vi v254]) (st := []) rfl rfl (by decide +kernel) rfl (Nat.le_of_ble_eq_true rfl) (Nat.le_of_ble_eq_true rfl) fun v255 s => ?_
  refine r_p (pc' := 1477) (p_istore (i := 6) (lv' := [(6, vi v255), (5, vi v253), (0, vt 999), (1, vr v1), (2, vr v2), (3, vr v3), (4, vi x)]) (by decide +kernel) (Nat.le_of_ble_eq_true rfl) rfl) ?_
  refine r_p (pc' := 1478) (p_aload_n 4 (k := 2) (by decide +kernel) rfl) ?_
  refine r_callVI mvL_151 (ctX12_thrown v2) (rcX12_thrown v2) ⟨_, _, rfl⟩ (as := []) (st := []) rfl rfl (by decide +kernel) rfl (Nat.le_of_ble_eq_true rfl) (Nat.le_of_ble_eq_true rfl) fun v256 s => ?_
  refine r_p (pc' := 1483) (p_iload 1 (i := 5) (by decide +kernel) rfl) ?_
  refine r_icmpeq (off := 5) (tgt := 1488) (by decide +kernel) (by decide) (fun h257 => ?_) (fun h257 => ?_)
  · refine r_p (pc' := 1490) (p_iload 1 (i := 5) (by decide +kernel) rfl) ?_
    refine r_ifne (off := 15) (tgt := 1505) (by decide +kernel) (by decide) (fun h258 => ?_) (fun h258 => ?_)
    · refine r_p (pc' := 1494) (p_aload_n 5 (k := 3) (by decide +kernel) rfl) ?_
      refine r_p (pc' := 1495) (p_iconst (n := 0) (v := 0) (by decide +kernel) rfl) ?_
      refine r_ldL (by decide +kernel) fun v259 => ?_
      refine r_p (pc' := 1498) (p_iload 0 (i := 6) (by decide +kernel) rfl) ?_
      refine r_p (pc' := 1499) (p_i2l (by decide +kernel)) ?_
      refine r_p (pc' := 1500) (p_lcmp (by decide +kernel)) ?_
      refine r_ifeq (off := 5) (tgt := 1505) (by decide +kernel) (by decide) (fun h260 => ?_) (fun h260 => ?_)
      · refine r_p (pc' := 2977) (p_goto (off := 1472) (tgt := 2977) (by decide +kernel) (by decide)) ?_
        refine r_p (pc' := 2980) (p_iinc 6 (i := 4) (n := 6) (x := x) (v := x + 6) (lv' := [(4, vi (x + 6)), (6, vi v255), (5, vi v253), (0, vt 999), (1, vr v1), (2, vr v2), (3, vr v3)]) (by decide +kernel) rfl rfl (Nat.le_of_ble_eq_true rfl) rfl) ?_
        refine r_p (pc' := 23) (p_goto (off := -2957) (tgt := 23) (by decide +kernel) (by decide)) ?_
        refine r_sub (lv' := [(0, vt 999), (1, vr v1), (2, vr v2), (3, vr v3), (4, vi (x + 6))]) [3, 4, 5, 6, 0] rfl ?_
        exact hb (x + 6) _
      · refine r_p (pc' := 1504) (p_iconst (n := 0) (v := 0) (by decide +kernel) rfl) ?_
        exact r_iret hk rfl _ rfl rfl (by decide +kernel)
    · refine r_p (pc' := 2977) (p_goto (off := 1472) (tgt := 2977) (by decide +kernel) (by decide)) ?_
      refine r_p (pc' := 2980) (p_iinc 6 (i := 4) (n := 6) (x := x) (v := x + 6) (lv' := [(4, vi (x + 6)), (6, vi v255), (5, vi v253), (0, vt 999), (1, vr v1), (2, vr v2), (3, vr v3)]) (by decide +kernel) rfl rfl (Nat.le_of_ble_eq_true rfl) rfl) ?_
      refine r_p (pc' := 23) (p_goto (off := -2957) (tgt := 23) (by decide +kernel) (by decide)) ?_
      refine r_sub (lv' := [(0, vt 999), (1, vr v1), (2, vr v2), (3, vr v3), (4, vi (x + 6))]) [3, 4, 5, 6, 0] rfl ?_
      exact hb (x + 6) _
  · refine r_p (pc' := 1487) (p_iconst (n := 0) (v := 0) (by decide +kernel) rfl) ?_
    exact r_iret hk rfl _ rfl rfl (by decide +kernel)
set_option maxHeartbeats 4000000 in
set_option maxRecDepth 100000 in
theorem rmL_main_c21 (n0 : Nat) (xs : Nat → Int32) (v1 : Nat) (v2 : Nat) (v3 : Nat) (x : Int32) (v6 : Int32) (Y : DyA) (hx : wX (yW Y) = xs ∧ wL (yW Y) = n0) (K : Int32 ⊕ (Unit ⊕ Unit) → MM Int32) (hb : ∀ (x : Int32) (s : aS), Rr aL_main Y 23 [(0, vt 999), (1, vr v1), (2, vr v2), (3, vr v3), (4, vi x)] [] (mret (.inl x) : MM (Int32 ⊕ (Unit ⊕ Unit))) K rI s) (hk : K (.inr (.inr ())) = mret 0) (hk1 : K (.inr (.inl ())) = mret 1) (s : aS) : Rr aL_main Y 1508 [(0, vt 999), (1, vr v1), (2, vr v2), (3, vr v3), (4, vi x)] [] (mL_main_c21 v1 v2 x) K rI s := by
  unfold mL_main_c21
  refine r_p (pc' := 1509) (p_aload_n 1 (k := 1) (by decide +kernel) rfl) ?_
  refine r_callVI mvL_216 (ctX11_clean v1) (rcX11_clean v1) ⟨_, _, rfl⟩ (as := []) (st := []) rfl rfl (by decide +kernel) rfl (Nat.le_of_ble_eq_true rfl) (Nat.le_of_ble_eq_true rfl) fun v262 s => ?_
  refine r_p (pc' := 1513) (p_aload_n 2 (k := 2) (by decide +kernel) rfl) ?_
  refine r_callVI mvL_219 (ctX12_clean v2) (rcX12_clean v2) ⟨_, _, rfl⟩ (as := []) (st := [vi v262]) rfl rfl (by decide +kernel) rfl (Nat.le_of_ble_eq_true rfl) (Nat.le_of_ble_eq_true rfl) fun v263 s => ?_
  refine r_icmpeq (off := 1461) (tgt := 2977) (by decide +kernel) (by decide) (fun h264 => ?_) (fun h264 => ?_)
  · refine r_p (pc' := 2980) (p_iinc 4 (i := 4) (n := 6) (x := x) (v := x + 6) (lv' := [(4, vi (x + 6)), (0, vt 999), (1, vr v1), (2, vr v2), (3, vr v3)]) (by decide +kernel) rfl rfl (Nat.le_of_ble_eq_true rfl) rfl) ?_
    refine r_p (pc' := 23) (p_goto (off := -2957) (tgt := 23) (by decide +kernel) (by decide)) ?_
    refine r_sub (lv' := [(0, vt 999), (1, vr v1), (2, vr v2), (3, vr v3), (4, vi (x + 6))]) [1, 2, 3, 4, 0] rfl ?_
    exact hb (x + 6) _
  · refine r_p (pc' := 1520) (p_iconst (n := 0) (v := 0) (by decide +kernel) rfl) ?_
    exact r_iret hk rfl _ rfl rfl (by decide +kernel)
set_option maxHeartbeats 4000000 in
set_option maxRecDepth 100000 in
theorem rmL_main_c22 (n0 : Nat) (xs : Nat → Int32) (v1 : Nat) (v2 : Nat) (v3 : Nat) (x : Int32) (v6 : Int32) (Y : DyA) (hx : wX (yW Y) = xs ∧ wL (yW Y) = n0) (K : Int32 ⊕ (Unit ⊕ Unit) → MM Int32) (hb : ∀ (x : Int32) (s : aS), Rr aL_main Y 23 [(0, vt 999), (1, vr v1), (2, vr v2), (3, vr v3), (4, vi x)] [] (mret (.inl x) : MM (Int32 ⊕ (Unit ⊕ Unit))) K rI s) (hk : K (.inr (.inr ())) = mret 0) (hk1 : K (.inr (.inl ())) = mret 1) (s : aS) : Rr aL_main Y 1521 [(0, vt 999), (1, vr v1), (2, vr v2), (3, vr v3), (4, vi x)] [] (mL_main_c22 n0 xs v1 v2 v3 x) K rI s := by
  unfold mL_main_c22
  refine r_p (pc' := 1522) (p_aload_n 1 (k := 1) (by decide +kernel) rfl) ?_
  refine r_p (pc' := 1523) (p_tload_n 0 (k := 0) (Nat.le_of_ble_eq_true rfl) (by decide +kernel) rfl) ?_
  refine r_p (pc' := 1525) (p_iload 4 (i := 4) (by decide +kernel) rfl) ?_
  refine r_p (pc' := 1526) (p_iconst (n := 1) (v := 1) (by decide +kernel) rfl) ?_
  refine r_p (pc' := 1527) (p_iadd (by decide +kernel)) ?_
  refine r_sldx (by decide +kernel) hx fun v266 => ?_
  refine r_p (pc' := 1529) (p_tload_n 0 (k := 0) (Nat.le_of_ble_eq_true rfl) (by decide +kernel) rfl) ?_
  refine r_p (pc' := 1531) (p_iload 4 (i := 4) (by decide +kernel) rfl) ?_
  refine r_p (pc' := 1532) (p_iconst (n := 2) (v := 2) (by decide +kernel) rfl) ?_
  refine r_p (pc' := 1533) (p_iadd (by decide +kernel)) ?_
  refine r_sldx (by decide +kernel) hx fun v267 => ?_
  refine r_p (pc' := 1535) (p_tload_n 0 (k := 0) (Nat.le_of_ble_eq_true rfl) (by decide +kernel) rfl) ?_
  refine r_p (pc' := 1537) (p_iload 4 (i := 4) (by decide +kernel) rfl) ?_
  refine r_p (pc' := 1538) (p_iconst (n := 3) (v := 3) (by decide +kernel) rfl) ?_
  refine r_p (pc' := 1539) (p_iadd (by decide +kernel)) ?_
  refine r_sldx (by decide +kernel) hx fun v268 => ?_
  refine r_join 1548 (fun (x270 : Int32) => [(0, vt 999), (1, vr v1), (2, vr v2), (3, vr v3), (4, vi x)]) (fun (x270 : Int32) => [vi x270, vi v267, vi v266, vr v1]) (fun x270 s => ?_) (fun K271 hj272 => ?_)
  · refine r_p (pc' := 1549) (p_aload_n 3 (k := 3) (by decide +kernel) rfl) ?_
    refine r_callSH msL_220 (ctL_exchange v1 v266 v267 x270 v3) (as := [vr v1, vi v266, vi v267, vi x270, vr v3]) (st := []) rfl rfl (by decide +kernel) rfl (Nat.le_of_ble_eq_true rfl) (Nat.le_of_ble_eq_true rfl) fun v273 s => ?_
    refine r_p (pc' := 1554) (p_istore (i := 5) (lv' := [(5, vi v273), (0, vt 999), (1, vr v1), (2, vr v2), (3, vr v3), (4, vi x)]) (by decide +kernel) (Nat.le_of_ble_eq_true rfl) rfl) ?_
    refine r_p (pc' := 1555) (p_aload_n 3 (k := 2) (by decide +kernel) rfl) ?_
    refine r_p (pc' := 1556) (p_tload_n 1 (k := 0) (Nat.le_of_ble_eq_true rfl) (by decide +kernel) rfl) ?_
    refine r_p (pc' := 1558) (p_iload 5 (i := 4) (by decide +kernel) rfl) ?_
    refine r_p (pc' := 1559) (p_iconst (n := 1) (v := 1) (by decide +kernel) rfl) ?_
    refine r_p (pc' := 1560) (p_iadd (by decide +kernel)) ?_
    refine r_sldx (by decide +kernel) hx fun v274 => ?_
    refine r_p (pc' := 1562) (p_tload_n 1 (k := 0) (Nat.le_of_ble_eq_true rfl) (by decide +kernel) rfl) ?_
    refine r_p (pc' := 1564) (p_iload 5 (i := 4) (by decide +kernel) rfl) ?_
    refine r_p (pc' := 1565) (p_iconst (n := 2) (v := 2) (by decide +kernel) rfl) ?_
    refine r_p (pc' := 1566) (p_iadd (by decide +kernel)) ?_
    refine r_sldx (by decide +kernel) hx fun v275 => ?_
    refine r_p (pc' := 1568) (p_tload_n 1 (k := 0) (Nat.le_of_ble_eq_true rfl) (by decide +kernel) rfl) ?_
    refine r_p (pc' := 1570) (p_iload 5 (i := 4) (by decide +kernel) rfl) ?_
    refine r_p (pc' := 1571) (p_iconst (n := 3) (v := 3) (by decide +kernel) rfl) ?_
    refine r_p (pc' := 1572) (p_iadd (by decide +kernel)) ?_
    refine r_sldx (by decide +kernel) hx fun v276 => ?_
    refine r_join 1581 (fun (x278 : Int32) => [(0, vt 999), (1, vr v1), (2, vr v2), (3, vr v3), (4, vi x), (5, vi v273)]) (fun (x278 : Int32) => [vi x278, vi v275, vi v274, vr v2]) (fun x278 s => ?_) (fun K279 hj280 => ?_)
    · refine r_callVI mvL_223 (ctX12_exchange v2 v274 v275 x278) (rcX12_exchange v2 v274 v275 x278) ⟨_, _, rfl⟩ (as := [vi v274, vi v275, vi x278]) (st := []) rfl rfl (by decide +kernel) rfl (Nat.le_of_ble_eq_true rfl) (Nat.le_of_ble_eq_true rfl) fun v281 s => ?_
      refine r_p (pc' := 1586) (p_istore (i := 6) (lv' := [(6, vi v281), (0, vt 999), (1, vr v1), (2, vr v2), (3, vr v3), (4, vi x), (5, vi v273)]) (by decide +kernel) (Nat.le_of_ble_eq_true rfl) rfl) ?_
      refine r_p (pc' := 1587) (p_aload_n 3 (k := 2) (by decide +kernel) rfl) ?_
      refine r_callVI mvL_151 (ctX12_thrown v2) (rcX12_thrown v2) ⟨_, _, rfl⟩ (as := []) (st := []) rfl rfl (by decide +kernel) rfl (Nat.le_of_ble_eq_true rfl) (Nat.le_of_ble_eq_true rfl) fun v282 s => ?_
      refine r_p (pc' := 1592) (p_iload 6 (i := 5) (by decide +kernel) rfl) ?_
      refine r_icmpeq (off := 5) (tgt := 1597) (by decide +kernel) (by decide) (fun h283 => ?_) (fun h283 => ?_)
      · refine r_p (pc' := 1599) (p_iload 6 (i := 5) (by decide +kernel) rfl) ?_
        refine r_ifne (off := 15) (tgt := 1614) (by decide +kernel) (by decide) (fun h284 => ?_) (fun h284 => ?_)
        · refine r_p (pc' := 1603) (p_aload_n 4 (k := 3) (by decide +kernel) rfl) ?_
          refine r_p (pc' := 1604) (p_iconst (n := 0) (v := 0) (by decide +kernel) rfl) ?_
          refine r_ldL (by decide +kernel) fun v285 => ?_
          refine r_p (pc' := 1607) (p_iload 0 (i := 6) (by decide +kernel) rfl) ?_
          refine r_p (pc' := 1608) (p_i2l (by decide +kernel)) ?_
          refine r_p (pc' := 1609) (p_lcmp (by decide +kernel)) ?_
          refine r_ifeq (off := 5) (tgt := 1614) (by decide +kernel) (by decide) (fun h286 => ?_) (fun h286 => ?_)
          · refine r_p (pc' := 2977) (p_goto (off := 1363) (tgt := 2977) (by decide +kernel) (by decide)) ?_
            refine r_p (pc' := 2980) (p_iinc 5 (i := 4) (n := 6) (x := x) (v := x + 6) (lv' := [(4, vi (x + 6)), (6, vi v281), (0, vt 999), (1, vr v1), (2, vr v2), (3, vr v3), (5, vi v273)]) (by decide +kernel) rfl rfl (Nat.le_of_ble_eq_true rfl) rfl) ?_
            refine r_p (pc' := 23) (p_goto (off := -2957) (tgt := 23) (by decide +kernel) (by decide)) ?_
            refine r_sub (lv' := [(0, vt 999), (1, vr v1), (2, vr v2), (3, vr v3), (4, vi (x + 6))]) [2, 3, 4, 5, 0] rfl ?_
            exact hb (x + 6) _
          · refine r_p (pc' := 1613) (p_iconst (n := 0) (v := 0) (by decide +kernel) rfl) ?_
            exact r_iret hk rfl _ rfl rfl (by decide +kernel)
        · refine r_p (pc' := 2977) (p_goto (off := 1363) (tgt := 2977) (by decide +kernel) (by decide)) ?_
          refine r_p (pc' := 2980) (p_iinc 5 (i := 4) (n := 6) (x := x) (v := x + 6) (lv' := [(4, vi (x + 6)), (6, vi v281), (0, vt 999), (1, vr v1), (2, vr v2), (3, vr v3), (5, vi v273)]) (by decide +kernel) rfl rfl (Nat.le_of_ble_eq_true rfl) rfl) ?_
          refine r_p (pc' := 23) (p_goto (off := -2957) (tgt := 23) (by decide +kernel) (by decide)) ?_
          refine r_sub (lv' := [(0, vt 999), (1, vr v1), (2, vr v2), (3, vr v3), (4, vi (x + 6))]) [2, 3, 4, 5, 0] rfl ?_
          exact hb (x + 6) _
      · refine r_p (pc' := 1596) (p_iconst (n := 0) (v := 0) (by decide +kernel) rfl) ?_
        exact r_iret hk rfl _ rfl rfl (by decide +kernel)
    · refine r_ifeq (off := 7) (tgt := 1580) (by decide +kernel) (by decide) (fun h277 => ?_) (fun h277 => ?_)
      · refine r_p (pc' := 1581) (p_iconst (n := 0) (v := 0) (by decide +kernel) rfl) ?_
        refine r_sub (lv' := [(0, vt 999), (1, vr v1), (2, vr v2), (3, vr v3), (4, vi x), (5, vi v273)]) [1, 2, 3, 4, 5, 0] rfl ?_
        exact hj280 0 _
      · refine r_p (pc' := 1577) (p_iconst (n := 1) (v := 1) (by decide +kernel) rfl) ?_
        refine r_p (pc' := 1581) (p_goto (off := 4) (tgt := 1581) (by decide +kernel) (by decide)) ?_
        refine r_sub (lv' := [(0, vt 999), (1, vr v1), (2, vr v2), (3, vr v3), (4, vi x), (5, vi v273)]) [1, 2, 3, 4, 5, 0] rfl ?_
        exact hj280 1 _
  · refine r_ifeq (off := 7) (tgt := 1547) (by decide +kernel) (by decide) (fun h269 => ?_) (fun h269 => ?_)
    · refine r_p (pc' := 1548) (p_iconst (n := 0) (v := 0) (by decide +kernel) rfl) ?_
      exact hj272 0 _
    · refine r_p (pc' := 1544) (p_iconst (n := 1) (v := 1) (by decide +kernel) rfl) ?_
      refine r_p (pc' := 1548) (p_goto (off := 4) (tgt := 1548) (by decide +kernel) (by decide)) ?_
      exact hj272 1 _
set_option maxHeartbeats 4000000 in
set_option maxRecDepth 100000 in
theorem rmL_main_c23 (n0 : Nat) (xs : Nat → Int32) (v1 : Nat) (v2 : Nat) (v3 : Nat) (x : Int32) (v6 : Int32) (Y : DyA) (hx : wX (yW Y) = xs ∧ wL (yW Y) = n0) (K : Int32 ⊕ (Unit ⊕ Unit) → MM Int32) (hb : ∀ (x : Int32) (s : aS), Rr aL_main Y 23 [(0, vt 999), (1, vr v1), (2, vr v2), (3, vr v3), (4, vi x)] [] (mret (.inl x) : MM (Int32 ⊕ (Unit ⊕ Unit))) K rI s) (hk : K (.inr (.inr ())) = mret 0) (hk1 : K (.inr (.inl ())) = mret 1) (s : aS) : Rr aL_main Y 1617 [(0, vt 999), (1, vr v1), (2, vr v2), (3, vr v3), (4, vi x)] [] (mL_main_c23 n0 xs v1 v2 v3 x) K rI s := by
  unfold mL_main_c23
  refine r_p (pc' := 1618) (p_aload_n 1 (k := 1) (by decide +kernel) rfl) ?_
  refine r_p (pc' := 1619) (p_tload_n 0 (k := 0) (Nat.le_of_ble_eq_true rfl) (by decide +kernel) rfl) ?_
  refine r_p (pc' := 1621) (p_iload 4 (i := 4) (by decide +kernel) rfl) ?_
  refine r_p (pc' := 1622) (p_iconst (n := 1) (v := 1) (by decide +kernel) rfl) ?_
  refine r_p (pc' := 1623) (p_iadd (by decide +kernel)) ?_
  refine r_sldx (by decide +kernel) hx fun v288 => ?_
  refine r_p (pc' := 1625) (p_aload_n 3 (k := 3) (by decide +kernel) rfl) ?_
  refine r_callSH msL_224 (ctL_with v1 v288 v3) (as := [vr v1, vi v288, vr v3]) (st := []) rfl rfl (by decide +kernel) rfl (Nat.le_of_ble_eq_true rfl) (Nat.le_of_ble_eq_true rfl) fun v289 s => ?_
  refine r_p (pc' := 1630) (p_istore (i := 5) (lv' := [(5, vi v289), (0, vt 999), (1, vr v1), (2, vr v2), (3, vr v3), (4, vi x)]) (by decide +kernel) (Nat.le_of_ble_eq_true rfl) rfl) ?_
  refine r_p (pc' := 1631) (p_aload_n 3 (k := 2) (by decide +kernel) rfl) ?_
  refine r_p (pc' := 1632) (p_tload_n 1 (k := 0) (Nat.le_of_ble_eq_true rfl) (by decide +kernel) rfl) ?_
  refine r_p (pc' := 1634) (p_iload 5 (i := 4) (by decide +kernel) rfl) ?_
  refine r_p (pc' := 1635) (p_iconst (n := 1) (v := 1) (by decide +kernel) rfl) ?_
  refine r_p (pc' := 1636) (p_iadd (by decide +kernel)) ?_
  refine r_sldx (by decide +kernel) hx fun v290 => ?_
  refine r_callVI mvL_226 (ctX12_with v2 v290) (rcX12_with v2 v290) ⟨_, _, rfl⟩ (as := [vi v290]) (st := []) rfl rfl (by decide +kernel) rfl (Nat.le_of_ble_eq_true rfl) (Nat.le_of_ble_eq_true rfl) fun v291 s => ?_
  refine r_p (pc' := 1642) (p_istore (i := 6) (lv' := [(6, vi v291), (5, vi v289), (0, vt 999), (1, vr v1), (2, vr v2), (3, vr v3), (4, vi x)]) (by decide +kernel) (Nat.le_of_ble_eq_true rfl) rfl) ?_
  refine r_p (pc' := 1643) (p_aload_n 4 (k := 2) (by decide +kernel) rfl) ?_
  refine r_callVI mvL_151 (ctX12_thrown v2) (rcX12_thrown v2) ⟨_, _, rfl⟩ (as := []) (st := []) rfl rfl (by decide +kernel) rfl (Nat.le_of_ble_eq_true rfl) (Nat.le_of_ble_eq_true rfl) fun v292 s => ?_
  refine r_p (pc' := 1648) (p_iload 1 (i := 5) (by decide +kernel) rfl) ?_
  refine r_icmpeq (off := 5) (tgt := 1653) (by decide +kernel) (by decide) (fun h293 => ?_) (fun h293 => ?_)
  · refine r_p (pc' := 1655) (p_iload 1 (i := 5) (by decide +kernel) rfl) ?_
    refine r_ifne (off := 15) (tgt := 1670) (by decide +kernel) (by decide) (fun h294 => ?_) (fun h294 => ?_)
    · refine r_p (pc' := 1659) (p_aload_n 5 (k := 3) (by decide +kernel) rfl) ?_
      refine r_p (pc' := 1660) (p_iconst (n := 0) (v := 0) (by decide +kernel) rfl) ?_
      refine r_ldL (by decide +kernel) fun v295 => ?_
      refine r_p (pc' := 1663) (p_iload 0 (i := 6) (by decide +kernel) rfl) ?_
      refine r_p (pc' := 1664) (p_i2l (by decide +kernel)) ?_
      refine r_p (pc' := 1665) (p_lcmp (by decide +kernel)) ?_
      refine r_ifeq (off := 5) (tgt := 1670) (by decide +kernel) (by decide) (fun h296 => ?_) (fun h296 => ?_)
      · refine r_p (pc' := 2977) (p_goto (off := 1307) (tgt := 2977) (by decide +kernel) (by decide)) ?_
        refine r_p (pc' := 2980) (p_iinc 6 (i := 4) (n := 6) (x := x) (v := x + 6) (lv' := [(4, vi (x + 6)), (6, vi v291), (5, vi v289), (0, vt 999), (1, vr v1), (2, vr v2), (3, vr v3)]) (by decide +kernel) rfl rfl (Nat.le_of_ble_eq_true rfl) rfl) ?_
        refine r_p (pc' := 23) (p_goto (off := -2957) (tgt := 23) (by decide +kernel) (by decide)) ?_
        refine r_sub (lv' := [(0, vt 999), (1, vr v1), (2, vr v2), (3, vr v3), (4, vi (x + 6))]) [3, 4, 5, 6, 0] rfl ?_
        exact hb (x + 6) _
      · refine r_p (pc' := 1669) (p_iconst (n := 0) (v := 0) (by decide +kernel) rfl) ?_
        exact r_iret hk rfl _ rfl rfl (by decide +kernel)
    · refine r_p (pc' := 2977) (p_goto (off := 1307) (tgt := 2977) (by decide +kernel) (by decide)) ?_
      refine r_p (pc' := 2980) (p_iinc 6 (i := 4) (n := 6) (x := x) (v := x + 6) (lv' := [(4, vi (x + 6)), (6, vi v291), (5, vi v289), (0, vt 999), (1, vr v1), (2, vr v2), (3, vr v3)]) (by decide +kernel) rfl rfl (Nat.le_of_ble_eq_true rfl) rfl) ?_
      refine r_p (pc' := 23) (p_goto (off := -2957) (tgt := 23) (by decide +kernel) (by decide)) ?_
      refine r_sub (lv' := [(0, vt 999), (1, vr v1), (2, vr v2), (3, vr v3), (4, vi (x + 6))]) [3, 4, 5, 6, 0] rfl ?_
      exact hb (x + 6) _
  · refine r_p (pc' := 1652) (p_iconst (n := 0) (v := 0) (by decide +kernel) rfl) ?_
    exact r_iret hk rfl _ rfl rfl (by decide +kernel)
set_option maxHeartbeats 4000000 in
set_option maxRecDepth 100000 in
theorem rmL_main_c24 (n0 : Nat) (xs : Nat → Int32) (v1 : Nat) (v2 : Nat) (v3 : Nat) (x : Int32) (v6 : Int32) (Y : DyA) (hx : wX (yW Y) = xs ∧ wL (yW Y) = n0) (K : Int32 ⊕ (Unit ⊕ Unit) → MM Int32) (hb : ∀ (x : Int32) (s : aS), Rr aL_main Y 23 [(0, vt 999), (1, vr v1), (2, vr v2), (3, vr v3), (4, vi x)] [] (mret (.inl x) : MM (Int32 ⊕ (Unit ⊕ Unit))) K rI s) (hk : K (.inr (.inr ())) = mret 0) (hk1 : K (.inr (.inl ())) = mret 1) (s : aS) : Rr aL_main Y 1673 [(0, vt 999), (1, vr v1), (2, vr v2), (3, vr v3), (4, vi x)] [] (mL_main_c24 n0 xs v1 v2 v3 x) K rI s := by
  unfold mL_main_c24
  refine r_p (pc' := 1674) (p_aload_n 1 (k := 1) (by decide +kernel) rfl) ?_
  refine r_p (pc' := 1675) (p_tload_n 0 (k := 0) (Nat.le_of_ble_eq_true rfl) (by decide +kernel) rfl) ?_
  refine r_p (pc' := 1677) (p_iload 4 (i := 4) (by decide +kernel) rfl) ?_
  refine r_p (pc' := 1678) (p_iconst (n := 1) (v := 1) (by decide +kernel) rfl) ?_
  refine r_p (pc' := 1679) (p_iadd (by decide +kernel)) ?_
  refine r_sldx (by decide +kernel) hx fun v298 => ?_
  refine r_p (pc' := 1681) (p_tload_n 0 (k := 0) (Nat.le_of_ble_eq_true rfl) (by decide +kernel) rfl) ?_
  refine r_p (pc' := 1683) (p_iload 4 (i := 4) (by decide +kernel) rfl) ?_
  refine r_p (pc' := 1684) (p_iconst (n := 2) (v := 2) (by decide +kernel) rfl) ?_
  refine r_p (pc' := 1685) (p_iadd (by decide +kernel)) ?_
  refine r_sldx (by decide +kernel) hx fun v299 => ?_
  refine r_join 1694 (fun (x301 : Int32) => [(0, vt 999), (1, vr v1), (2, vr v2), (3, vr v3), (4, vi x)]) (fun (x301 : Int32) => [vi x301, vi v298, vr v1]) (fun x301 s => ?_) (fun K302 hj303 => ?_)
  · refine r_p (pc' := 1695) (p_aload_n 3 (k := 3) (by decide +kernel) rfl) ?_
    refine r_callSH msL_227 (ctL_strokes v1 v298 x301 v3) (as := [vr v1, vi v298, vi x301, vr v3]) (st := []) rfl rfl (by decide +kernel) rfl (Nat.le_of_ble_eq_true rfl) (Nat.le_of_ble_eq_true rfl) fun v304 s => ?_
    refine r_p (pc' := 1700) (p_istore (i := 5) (lv' := [(5, vi v304), (0, vt 999), (1, vr v1), (2, vr v2), (3, vr v3), (4, vi x)]) (by decide +kernel) (Nat.le_of_ble_eq_true rfl) rfl) ?_
    refine r_p (pc' := 1701) (p_aload_n 3 (k := 2) (by decide +kernel) rfl) ?_
    refine r_p (pc' := 1702) (p_tload_n 1 (k := 0) (Nat.le_of_ble_eq_true rfl) (by decide +kernel) rfl) ?_
    refine r_p (pc' := 1704) (p_iload 5 (i := 4) (by decide +kernel) rfl) ?_
    refine r_p (pc' := 1705) (p_iconst (n := 1) (v := 1) (by decide +kernel) rfl) ?_
    refine r_p (pc' := 1706) (p_iadd (by decide +kernel)) ?_
    refine r_sldx (by decide +kernel) hx fun v305 => ?_
    refine r_p (pc' := 1708) (p_tload_n 1 (k := 0) (Nat.le_of_ble_eq_true rfl) (by decide +kernel) rfl) ?_
    refine r_p (pc' := 1710) (p_iload 5 (i := 4) (by decide +kernel) rfl) ?_
    refine r_p (pc' := 1711) (p_iconst (n := 2) (v := 2) (by decide +kernel) rfl) ?_
    refine r_p (pc' := 1712) (p_iadd (by decide +kernel)) ?_
    refine r_sldx (by decide +kernel) hx fun v306 => ?_
    refine r_join 1721 (fun (x308 : Int32) => [(0, vt 999), (1, vr v1), (2, vr v2), (3, vr v3), (4, vi x), (5, vi v304)]) (fun (x308 : Int32) => [vi x308, vi v305, vr v2]) (fun x308 s => ?_) (fun K309 hj310 => ?_)
    · refine r_callVI mvL_229 (ctX12_strokes v2 v305 x308) (rcX12_strokes v2 v305 x308) ⟨_, _, rfl⟩ (as := [vi v305, vi x308]) (st := []) rfl rfl (by decide +kernel) rfl (Nat.le_of_ble_eq_true rfl) (Nat.le_of_ble_eq_true rfl) fun v311 s => ?_
      refine r_p (pc' := 1726) (p_istore (i := 6) (lv' := [(6, vi v311), (0, vt 999), (1, vr v1), (2, vr v2), (3, vr v3), (4, vi x), (5, vi v304)]) (by decide +kernel) (Nat.le_of_ble_eq_true rfl) rfl) ?_
      refine r_p (pc' := 1727) (p_aload_n 3 (k := 2) (by decide +kernel) rfl) ?_
      refine r_callVI mvL_151 (ctX12_thrown v2) (rcX12_thrown v2) ⟨_, _, rfl⟩ (as := []) (st := []) rfl rfl (by decide +kernel) rfl (Nat.le_of_ble_eq_true rfl) (Nat.le_of_ble_eq_true rfl) fun v312 s => ?_
      refine r_p (pc' := 1732) (p_iload 6 (i := 5) (by decide +kernel) rfl) ?_
      refine r_icmpeq (off := 5) (tgt := 1737) (by decide +kernel) (by decide) (fun h313 => ?_) (fun h313 => ?_)
      · refine r_p (pc' := 1739) (p_iload 6 (i := 5) (by decide +kernel) rfl) ?_
        refine r_ifne (off := 15) (tgt := 1754) (by decide +kernel) (by decide) (fun h314 => ?_) (fun h314 => ?_)
        · refine r_p (pc' := 1743) (p_aload_n 4 (k := 3) (by decide +kernel) rfl) ?_
          refine r_p (pc' := 1744) (p_iconst (n := 0) (v := 0) (by decide +kernel) rfl) ?_
          refine r_ldL (by decide +kernel) fun v315 => ?_
          refine r_p (pc' := 1747) (p_iload 0 (i := 6) (by decide +kernel) rfl) ?_
          refine r_p (pc' := 1748) (p_i2l (by decide +kernel)) ?_
          refine r_p (pc' := 1749) (p_lcmp (by decide +kernel)) ?_
          refine r_ifeq (off := 5) (tgt := 1754) (by decide +kernel) (by decide) (fun h316 => ?_) (fun h316 => ?_)
          · refine r_p (pc' := 2977) (p_goto (off := 1223) (tgt := 2977) (by decide +kernel) (by decide)) ?_
            refine r_p (pc' := 2980) (p_iinc 5 (i := 4) (n := 6) (x := x) (v := x + 6) (lv' := [(4, vi (x + 6)), (6, vi v311), (0, vt 999), (1, vr v1), (2, vr v2), (3, vr v3), (5, vi v304)]) (by decide +kernel) rfl rfl (Nat.le_of_ble_eq_true rfl) rfl) ?_
            refine r_p (pc' := 23) (p_goto (off := -2957) (tgt := 23) (by decide +kernel) (by decide)) ?_
            refine r_sub (lv' := [(0, vt 999), (1, vr v1), (2, vr v2), (3, vr v3), (4, vi (x + 6))]) [2, 3, 4, 5, 0] rfl ?_
            exact hb (x + 6) _
          · refine r_p (pc' := 1753) (p_iconst (n := 0) (v := 0) (by decide +kernel) rfl) ?_
            exact r_iret hk rfl _ rfl rfl (by decide +kernel)
        · refine r_p (pc' := 2977) (p_goto (off := 1223) (tgt := 2977) (by decide +kernel) (by decide)) ?_
          refine r_p (pc' := 2980) (p_iinc 5 (i := 4) (n := 6) (x := x) (v := x + 6) (lv' := [(4, vi (x + 6)), (6, vi v311), (0, vt 999), (1, vr v1), (2, vr v2), (3, vr v3), (5, vi v304)]) (by decide +kernel) rfl rfl (Nat.le_of_ble_eq_true rfl) rfl) ?_
          refine r_p (pc' := 23) (p_goto (off := -2957) (tgt := 23) (by decide +kernel) (by decide)) ?_
          refine r_sub (lv' := [(0, vt 999), (1, vr v1), (2, vr v2), (3, vr v3), (4, vi (x + 6))]) [2, 3, 4, 5, 0] rfl ?_
          exact hb (x + 6) _
      · refine r_p (pc' := 1736) (p_iconst (n := 0) (v := 0) (by decide +kernel) rfl) ?_
        exact r_iret hk rfl _ rfl rfl (by decide +kernel)
    · refine r_ifeq (off := 7) (tgt := 1720) (by decide +kernel) (by decide) (fun h307 => ?_) (fun h307 => ?_)
      · refine r_p (pc' := 1721) (p_iconst (n := 0) (v := 0) (by decide +kernel) rfl) ?_
        refine r_sub (lv' := [(0, vt 999), (1, vr v1), (2, vr v2), (3, vr v3), (4, vi x), (5, vi v304)]) [1, 2, 3, 4, 5, 0] rfl ?_
        exact hj310 0 _
      · refine r_p (pc' := 1717) (p_iconst (n := 1) (v := 1) (by decide +kernel) rfl) ?_
        refine r_p (pc' := 1721) (p_goto (off := 4) (tgt := 1721) (by decide +kernel) (by decide)) ?_
        refine r_sub (lv' := [(0, vt 999), (1, vr v1), (2, vr v2), (3, vr v3), (4, vi x), (5, vi v304)]) [1, 2, 3, 4, 5, 0] rfl ?_
        exact hj310 1 _
  · refine r_ifeq (off := 7) (tgt := 1693) (by decide +kernel) (by decide) (fun h300 => ?_) (fun h300 => ?_)
    · refine r_p (pc' := 1694) (p_iconst (n := 0) (v := 0) (by decide +kernel) rfl) ?_
      exact hj303 0 _
    · refine r_p (pc' := 1690) (p_iconst (n := 1) (v := 1) (by decide +kernel) rfl) ?_
      refine r_p (pc' := 1694) (p_goto (off := 4) (tgt := 1694) (by decide +kernel) (by decide)) ?_
      exact hj303 1 _
set_option maxHeartbeats 4000000 in
set_option maxRecDepth 100000 in
theorem rmL_main_c25 (n0 : Nat) (xs : Nat → Int32) (v1 : Nat) (v2 : Nat) (v3 : Nat) (x : Int32) (v6 : Int32) (Y : DyA) (hx : wX (yW Y) = xs ∧ wL (yW Y) = n0) (K : Int32 ⊕ (Unit ⊕ Unit) → MM Int32) (hb : ∀ (x : Int32) (s : aS), Rr aL_main Y 23 [(0, vt 999), (1, vr v1), (2, vr v2), (3, vr v3), (4, vi x)] [] (mret (.inl x) : MM (Int32 ⊕ (Unit ⊕ Unit))) K rI s) (hk : K (.inr (.inr ())) = mret 0) (hk1 : K (.inr (.inl ())) = mret 1) (s : aS) : Rr aL_main Y 1757 [(0, vt 999), (1, vr v1), (2, vr v2), (3, vr v3), (4, vi x)] [] (mL_main_c25 n0 xs v1 v2 v3 x) K rI s := by
  unfold mL_main_c25
  refine r_p (pc' := 1758) (p_aload_n 1 (k := 1) (by decide +kernel) rfl) ?_
  refine r_p (pc' := 1759) (p_tload_n 0 (k := 0) (Nat.le_of_ble_eq_true rfl) (by decide +kernel) rfl) ?_
  refine r_p (pc' := 1761) (p_iload 4 (i := 4) (by decide +kernel) rfl) ?_
  refine r_p (pc' := 1762) (p_iconst (n := 1) (v := 1) (by decide +kernel) rfl) ?_
  refine r_p (pc' := 1763) (p_iadd (by decide +kernel)) ?_
  refine r_sldx (by decide +kernel) hx fun v318 => ?_
  refine r_p (pc' := 1765) (p_tload_n 0 (k := 0) (Nat.le_of_ble_eq_true rfl) (by decide +kernel) rfl) ?_
  refine r_p (pc' := 1767) (p_iload 4 (i := 4) (by decide +kernel) rfl) ?_
  refine r_p (pc' := 1768) (p_iconst (n := 2) (v := 2) (by decide +kernel) rfl) ?_
  refine r_p (pc' := 1769) (p_iadd (by decide +kernel)) ?_
  refine r_sldx (by decide +kernel) hx fun v319 => ?_
  refine r_p (pc' := 1771) (p_aload_n 3 (k := 3) (by decide +kernel) rfl) ?_
  refine r_callSH msL_230 (ctL_harmed v1 v318 v319 v3) (as := [vr v1, vi v318, vi v319, vr v3]) (st := []) rfl rfl (by decide +kernel) rfl (Nat.le_of_ble_eq_true rfl) (Nat.le_of_ble_eq_true rfl) fun v320 s => ?_
  refine r_p (pc' := 1776) (p_istore (i := 5) (lv' := [(5, vi v320), (0, vt 999), (1, vr v1), (2, vr v2), (3, vr v3), (4, vi x)]) (by decide +kernel) (Nat.le_of_ble_eq_true rfl) rfl) ?_
  refine r_p (pc' := 1777) (p_aload_n 3 (k := 2) (by decide +kernel) rfl) ?_
  refine r_p (pc' := 1778) (p_tload_n 1 (k := 0) (Nat.le_of_ble_eq_true rfl) (by decide +kernel) rfl) ?_
  refine r_p (pc' := 1780) (p_iload 5 (i := 4) (by decide +kernel) rfl) ?_
  refine r_p (pc' := 1781) (p_iconst (n := 1) (v := 1) (by decide +kernel) rfl) ?_
  refine r_p (pc' := 1782) (p_iadd (by decide +kernel)) ?_
  refine r_sldx (by decide +kernel) hx fun v321 => ?_
  refine r_p (pc' := 1784) (p_tload_n 1 (k := 0) (Nat.le_of_ble_eq_true rfl) (by decide +kernel) rfl) ?_
  refine r_p (pc' := 1786) (p_iload 5 (i := 4) (by decide +kernel) rfl) ?_
  refine r_p (pc' := 1787) (p_iconst (n := 2) (v := 2) (by decide +kernel) rfl) ?_
  refine r_p (pc' := 1788) (p_iadd (by decide +kernel)) ?_
  refine r_sldx (by decide +kernel) hx fun v322 => ?_
  refine r_callVI mvL_232 (ctX12_harmed v2 v321 v322) (rcX12_harmed v2 v321 v322) ⟨_, _, rfl⟩ (as := [vi v321, vi v322]) (st := []) rfl rfl (by decide +kernel) rfl (Nat.le_of_ble_eq_true rfl) (Nat.le_of_ble_eq_true rfl) fun v323 s => ?_
  refine r_p (pc' := 1794) (p_istore (i := 6) (lv' := [(6, vi v323), (5, vi v320), (0, vt 999), (1, vr v1), (2, vr v2), (3, vr v3), (4, vi x)]) (by decide +kernel) (Nat.le_of_ble_eq_true rfl) rfl) ?_
  refine r_p (pc' := 1795) (p_aload_n 4 (k := 2) (by decide +kernel) rfl) ?_
  refine r_callVI mvL_151 (ctX12_thrown v2) (rcX12_thrown v2) ⟨_, _, rfl⟩ (as := []) (st := []) rfl rfl (by decide +kernel) rfl (Nat.le_of_ble_eq_true rfl) (Nat.le_of_ble_eq_true rfl) fun v324 s => ?_
  refine r_p (pc' := 1800) (p_iload 1 (i := 5) (by decide +kernel) rfl) ?_
  refine r_icmpeq (off := 5) (tgt := 1805) (by decide +kernel) (by decide) (fun h325 => ?_) (fun h325 => ?_)
  · refine r_p (pc' := 1807) (p_iload 1 (i := 5) (by decide +kernel) rfl) ?_
    refine r_ifne (off := 15) (tgt := 1822) (by decide +kernel) (by decide) (fun h326 => ?_) (fun h326 => ?_)
    · refine r_p (pc' := 1811) (p_aload_n 5 (k := 3) (by decide +kernel) rfl) ?_
      refine r_p (pc' := 1812) (p_iconst (n := 0) (v := 0) (by decide +kernel) rfl) ?_
      refine r_ldL (by decide +kernel) fun v327 => ?_
      refine r_p (pc' := 1815) (p_iload 0 (i := 6) (by decide +kernel) rfl) ?_
      refine r_p (pc' := 1816) (p_i2l (by decide +kernel)) ?_
      refine r_p (pc' := 1817) (p_lcmp (by decide +kernel)) ?_
      refine r_ifeq (off := 5) (tgt := 1822) (by decide +kernel) (by decide) (fun h328 => ?_) (fun h328 => ?_)
      · refine r_p (pc' := 2977) (p_goto (off := 1155) (tgt := 2977) (by decide +kernel) (by decide)) ?_
        refine r_p (pc' := 2980) (p_iinc 6 (i := 4) (n := 6) (x := x) (v := x + 6) (lv' := [(4, vi (x + 6)), (6, vi v323), (5, vi v320), (0, vt 999), (1, vr v1), (2, vr v2), (3, vr v3)]) (by decide +kernel) rfl rfl (Nat.le_of_ble_eq_true rfl) rfl) ?_
        refine r_p (pc' := 23) (p_goto (off := -2957) (tgt := 23) (by decide +kernel) (by decide)) ?_
        refine r_sub (lv' := [(0, vt 999), (1, vr v1), (2, vr v2), (3, vr v3), (4, vi (x + 6))]) [3, 4, 5, 6, 0] rfl ?_
        exact hb (x + 6) _
      · refine r_p (pc' := 1821) (p_iconst (n := 0) (v := 0) (by decide +kernel) rfl) ?_
        exact r_iret hk rfl _ rfl rfl (by decide +kernel)
    · refine r_p (pc' := 2977) (p_goto (off := 1155) (tgt := 2977) (by decide +kernel) (by decide)) ?_
      refine r_p (pc' := 2980) (p_iinc 6 (i := 4) (n := 6) (x := x) (v := x + 6) (lv' := [(4, vi (x + 6)), (6, vi v323), (5, vi v320), (0, vt 999), (1, vr v1), (2, vr v2), (3, vr v3)]) (by decide +kernel) rfl rfl (Nat.le_of_ble_eq_true rfl) rfl) ?_
      refine r_p (pc' := 23) (p_goto (off := -2957) (tgt := 23) (by decide +kernel) (by decide)) ?_
      refine r_sub (lv' := [(0, vt 999), (1, vr v1), (2, vr v2), (3, vr v3), (4, vi (x + 6))]) [3, 4, 5, 6, 0] rfl ?_
      exact hb (x + 6) _
  · refine r_p (pc' := 1804) (p_iconst (n := 0) (v := 0) (by decide +kernel) rfl) ?_
    exact r_iret hk rfl _ rfl rfl (by decide +kernel)
set_option maxHeartbeats 4000000 in
set_option maxRecDepth 100000 in
theorem rmL_main_c26 (n0 : Nat) (xs : Nat → Int32) (v1 : Nat) (v2 : Nat) (v3 : Nat) (x : Int32) (v6 : Int32) (Y : DyA) (hx : wX (yW Y) = xs ∧ wL (yW Y) = n0) (K : Int32 ⊕ (Unit ⊕ Unit) → MM Int32) (hb : ∀ (x : Int32) (s : aS), Rr aL_main Y 23 [(0, vt 999), (1, vr v1), (2, vr v2), (3, vr v3), (4, vi x)] [] (mret (.inl x) : MM (Int32 ⊕ (Unit ⊕ Unit))) K rI s) (hk : K (.inr (.inr ())) = mret 0) (hk1 : K (.inr (.inl ())) = mret 1) (s : aS) : Rr aL_main Y 1825 [(0, vt 999), (1, vr v1), (2, vr v2), (3, vr v3), (4, vi x)] [] (mL_main_c26 n0 xs v1 v2 x) K rI s := by
  unfold mL_main_c26
  refine r_p (pc' := 1826) (p_aload_n 1 (k := 1) (by decide +kernel) rfl) ?_
  refine r_p (pc' := 1827) (p_tload_n 0 (k := 0) (Nat.le_of_ble_eq_true rfl) (by decide +kernel) rfl) ?_
  refine r_p (pc' := 1829) (p_iload 4 (i := 4) (by decide +kernel) rfl) ?_
  refine r_p (pc' := 1830) (p_iconst (n := 1) (v := 1) (by decide +kernel) rfl) ?_
  refine r_p (pc' := 1831) (p_iadd (by decide +kernel)) ?_
  refine r_sldx (by decide +kernel) hx fun v330 => ?_
  refine r_callVI mvL_233 (ctX11_cell v1 v330) (rcX11_cell v1 v330) ⟨_, _, rfl⟩ (as := [vi v330]) (st := []) rfl rfl (by decide +kernel) rfl (Nat.le_of_ble_eq_true rfl) (Nat.le_of_ble_eq_true rfl) fun v331 s => ?_
  refine r_p (pc' := 1836) (p_aload_n 2 (k := 2) (by decide +kernel) rfl) ?_
  refine r_p (pc' := 1837) (p_tload_n 0 (k := 0) (Nat.le_of_ble_eq_true rfl) (by decide +kernel) rfl) ?_
  refine r_p (pc' := 1839) (p_iload 4 (i := 4) (by decide +kernel) rfl) ?_
  refine r_p (pc' := 1840) (p_iconst (n := 1) (v := 1) (by decide +kernel) rfl) ?_
  refine r_p (pc' := 1841) (p_iadd (by decide +kernel)) ?_
  refine r_sldx (by decide +kernel) hx fun v332 => ?_
  refine r_callVI mvL_236 (ctX12_cell v2 v332) (rcX12_cell v2 v332) ⟨_, _, rfl⟩ (as := [vi v332]) (st := [vi v331]) rfl rfl (by decide +kernel) rfl (Nat.le_of_ble_eq_true rfl) (Nat.le_of_ble_eq_true rfl) fun v333 s => ?_
  refine r_icmpeq (off := 1132) (tgt := 2977) (by decide +kernel) (by decide) (fun h334 => ?_) (fun h334 => ?_)
  · refine r_p (pc' := 2980) (p_iinc 4 (i := 4) (n := 6) (x := x) (v := x + 6) (lv' := [(4, vi (x + 6)), (0, vt 999), (1, vr v1), (2, vr v2), (3, vr v3)]) (by decide +kernel) rfl rfl (Nat.le_of_ble_eq_true rfl) rfl) ?_
    refine r_p (pc' := 23) (p_goto (off := -2957) (tgt := 23) (by decide +kernel) (by decide)) ?_
    refine r_sub (lv' := [(0, vt 999), (1, vr v1), (2, vr v2), (3, vr v3), (4, vi (x + 6))]) [1, 2, 3, 4, 0] rfl ?_
    exact hb (x + 6) _
  · refine r_p (pc' := 1849) (p_iconst (n := 0) (v := 0) (by decide +kernel) rfl) ?_
    exact r_iret hk rfl _ rfl rfl (by decide +kernel)
set_option maxHeartbeats 4000000 in
set_option maxRecDepth 100000 in
theorem rmL_main_c27 (n0 : Nat) (xs : Nat → Int32) (v1 : Nat) (v2 : Nat) (v3 : Nat) (x : Int32) (v6 : Int32) (Y : DyA) (hx : wX (yW Y) = xs ∧ wL (yW Y) = n0) (K : Int32 ⊕ (Unit ⊕ Unit) → MM Int32) (hb : ∀ (x : Int32) (s : aS), Rr aL_main Y 23 [(0, vt 999), (1, vr v1), (2, vr v2), (3, vr v3), (4, vi x)] [] (mret (.inl x) : MM (Int32 ⊕ (Unit ⊕ Unit))) K rI s) (hk : K (.inr (.inr ())) = mret 0) (hk1 : K (.inr (.inl ())) = mret 1) (s : aS) : Rr aL_main Y 1850 [(0, vt 999), (1, vr v1), (2, vr v2), (3, vr v3), (4, vi x)] [] (mL_main_c27 n0 xs v1 v2 v3 x) K rI s := by
  unfold mL_main_c27
  refine r_p (pc' := 1851) (p_aload_n 1 (k := 1) (by decide +kernel) rfl) ?_
  refine r_p (pc' := 1852) (p_tload_n 0 (k := 0) (Nat.le_of_ble_eq_true rfl) (by decide +kernel) rfl) ?_
  refine r_p (pc' := 1854) (p_iload 4 (i := 4) (by decide +kernel) rfl) ?_
  refine r_p (pc' := 1855) (p_iconst (n := 1) (v := 1) (by decide +kernel) rfl) ?_
  refine r_p (pc' := 1856) (p_iadd (by decide +kernel)) ?_
  refine r_sldx (by decide +kernel) hx fun v336 => ?_
  refine r_p (pc' := 1858) (p_tload_n 0 (k := 0) (Nat.le_of_ble_eq_true rfl) (by decide +kernel) rfl) ?_
  refine r_p (pc' := 1860) (p_iload 4 (i := 4) (by decide +kernel) rfl) ?_
  refine r_p (pc' := 1861) (p_iconst (n := 2) (v := 2) (by decide +kernel) rfl) ?_
  refine r_p (pc' := 1862) (p_iadd (by decide +kernel)) ?_
  refine r_sldx (by decide +kernel) hx fun v337 => ?_
  refine r_p (pc' := 1864) (p_aload_n 3 (k := 3) (by decide +kernel) rfl) ?_
  refine r_callSH msL_237 (ctL_joint v1 v336 v337 v3) (as := [vr v1, vi v336, vi v337, vr v3]) (st := []) rfl rfl (by decide +kernel) rfl (Nat.le_of_ble_eq_true rfl) (Nat.le_of_ble_eq_true rfl) fun v338 s => ?_
  refine r_p (pc' := 1869) (p_istore (i := 5) (lv' := [(5, vi v338), (0, vt 999), (1, vr v1), (2, vr v2), (3, vr v3), (4, vi x)]) (by decide +kernel) (Nat.le_of_ble_eq_true rfl) rfl) ?_
  refine r_p (pc' := 1870) (p_aload_n 3 (k := 2) (by decide +kernel) rfl) ?_
  refine r_p (pc' := 1871) (p_tload_n 1 (k := 0) (Nat.le_of_ble_eq_true rfl) (by decide +kernel) rfl) ?_
  refine r_p (pc' := 1873) (p_iload 5 (i := 4) (by decide +kernel) rfl) ?_
  refine r_p (pc' := 1874) (p_iconst (n := 1) (v := 1) (by decide +kernel) rfl) ?_
  refine r_p (pc' := 1875) (p_iadd (by decide +kernel)) ?_
  refine r_sldx (by decide +kernel) hx fun v339 => ?_
  refine r_p (pc' := 1877) (p_tload_n 1 (k := 0) (Nat.le_of_ble_eq_true rfl) (by decide +kernel) rfl) ?_
  refine r_p (pc' := 1879) (p_iload 5 (i := 4) (by decide +kernel) rfl) ?_
  refine r_p (pc' := 1880) (p_iconst (n := 2) (v := 2) (by decide +kernel) rfl) ?_
  refine r_p (pc' := 1881) (p_iadd (by decide +kernel)) ?_
  refine r_sldx (by decide +kernel) hx fun v340 => ?_
  refine r_callVI mvL_239 (ctX12_joint v2 v339 v340) (rcX12_joint v2 v339 v340) ⟨_, _, rfl⟩ (as := [vi v339, vi v340]) (st := []) rfl rfl (by decide +kernel) rfl (Nat.le_of_ble_eq_true rfl) (Nat.le_of_ble_eq_true rfl) fun v341 s => ?_
  refine r_p (pc' := 1887) (p_istore (i := 6) (lv' := [(6, vi v341), (5, vi v338), (0, vt 999), (1, vr v1), (2, vr v2), (3, vr v3), (4, vi x)]) (by decide +kernel) (Nat.le_of_ble_eq_true rfl) rfl) ?_
  refine r_p (pc' := 1888) (p_aload_n 4 (k := 2) (by decide +kernel) rfl) ?_
  refine r_callVI mvL_151 (ctX12_thrown v2) (rcX12_thrown v2) ⟨_, _, rfl⟩ (as := []) (st := []) rfl rfl (by decide +kernel) rfl (Nat.le_of_ble_eq_true rfl) (Nat.le_of_ble_eq_true rfl) fun v342 s => ?_
  refine r_p (pc' := 1893) (p_iload 1 (i := 5) (by decide +kernel) rfl) ?_
  refine r_icmpeq (off := 5) (tgt := 1898) (by decide +kernel) (by decide) (fun h343 => ?_) (fun h343 => ?_)
  · refine r_p (pc' := 1900) (p_iload 1 (i := 5) (by decide +kernel) rfl) ?_
    refine r_ifne (off := 15) (tgt := 1915) (by decide +kernel) (by decide) (fun h344 => ?_) (fun h344 => ?_)
    · refine r_p (pc' := 1904) (p_aload_n 5 (k := 3) (by decide +kernel) rfl) ?_
      refine r_p (pc' := 1905) (p_iconst (n := 0) (v := 0) (by decide +kernel) rfl) ?_
      refine r_ldL (by decide +kernel) fun v345 => ?_
      refine r_p (pc' := 1908) (p_iload 0 (i := 6) (by decide +kernel) rfl) ?_
      refine r_p (pc' := 1909) (p_i2l (by decide +kernel)) ?_
      refine r_p (pc' := 1910) (p_lcmp (by decide +kernel)) ?_
      refine r_ifeq (off := 5) (tgt := 1915) (by decide +kernel) (by decide) (fun h346 => ?_) (fun h346 => ?_)
      · refine r_p (pc' := 2977) (p_goto (off := 1062) (tgt := 2977) (by decide +kernel) (by decide)) ?_
        refine r_p (pc' := 2980) (p_iinc 6 (i := 4) (n := 6) (x := x) (v := x + 6) (lv' := [(4, vi (x + 6)), (6, vi v341), (5, vi v338), (0, vt 999), (1, vr v1), (2, vr v2), (3, vr v3)]) (by decide +kernel) rfl rfl (Nat.le_of_ble_eq_true rfl) rfl) ?_
        refine r_p (pc' := 23) (p_goto (off := -2957) (tgt := 23) (by decide +kernel) (by decide)) ?_
        refine r_sub (lv' := [(0, vt 999), (1, vr v1), (2, vr v2), (3, vr v3), (4, vi (x + 6))]) [3, 4, 5, 6, 0] rfl ?_
        exact hb (x + 6) _
      · refine r_p (pc' := 1914) (p_iconst (n := 0) (v := 0) (by decide +kernel) rfl) ?_
        exact r_iret hk rfl _ rfl rfl (by decide +kernel)
    · refine r_p (pc' := 2977) (p_goto (off := 1062) (tgt := 2977) (by decide +kernel) (by decide)) ?_
      refine r_p (pc' := 2980) (p_iinc 6 (i := 4) (n := 6) (x := x) (v := x + 6) (lv' := [(4, vi (x + 6)), (6, vi v341), (5, vi v338), (0, vt 999), (1, vr v1), (2, vr v2), (3, vr v3)]) (by decide +kernel) rfl rfl (Nat.le_of_ble_eq_true rfl) rfl) ?_
      refine r_p (pc' := 23) (p_goto (off := -2957) (tgt := 23) (by decide +kernel) (by decide)) ?_
      refine r_sub (lv' := [(0, vt 999), (1, vr v1), (2, vr v2), (3, vr v3), (4, vi (x + 6))]) [3, 4, 5, 6, 0] rfl ?_
      exact hb (x + 6) _
  · refine r_p (pc' := 1897) (p_iconst (n := 0) (v := 0) (by decide +kernel) rfl) ?_
    exact r_iret hk rfl _ rfl rfl (by decide +kernel)
set_option maxHeartbeats 4000000 in
set_option maxRecDepth 100000 in
theorem rmL_main_c28 (n0 : Nat) (xs : Nat → Int32) (v1 : Nat) (v2 : Nat) (v3 : Nat) (x : Int32) (v6 : Int32) (Y : DyA) (hx : wX (yW Y) = xs ∧ wL (yW Y) = n0) (K : Int32 ⊕ (Unit ⊕ Unit) → MM Int32) (hb : ∀ (x : Int32) (s : aS), Rr aL_main Y 23 [(0, vt 999), (1, vr v1), (2, vr v2), (3, vr v3), (4, vi x)] [] (mret (.inl x) : MM (Int32 ⊕ (Unit ⊕ Unit))) K rI s) (hk : K (.inr (.inr ())) = mret 0) (hk1 : K (.inr (.inl ())) = mret 1) (s : aS) : Rr aL_main Y 1918 [(0, vt 999), (1, vr v1), (2, vr v2), (3, vr v3), (4, vi x)] [] (mL_main_c28 n0 xs v1 v2 v3 x) K rI s := by
  unfold mL_main_c28
  refine r_p (pc' := 1919) (p_aload_n 1 (k := 1) (by decide +kernel) rfl) ?_
  refine r_p (pc' := 1920) (p_tload_n 0 (k := 0) (Nat.le_of_ble_eq_true rfl) (by decide +kernel) rfl) ?_
  refine r_p (pc' := 1922) (p_iload 4 (i := 4) (by decide +kernel) rfl) ?_
  refine r_p (pc' := 1923) (p_iconst (n := 1) (v := 1) (by decide +kernel) rfl) ?_
  refine r_p (pc' := 1924) (p_iadd (by decide +kernel)) ?_
  refine r_sldx (by decide +kernel) hx fun v348 => ?_
  refine r_p (pc' := 1926) (p_tload_n 0 (k := 0) (Nat.le_of_ble_eq_true rfl) (by decide +kernel) rfl) ?_
  refine r_p (pc' := 1928) (p_iload 4 (i := 4) (by decide +kernel) rfl) ?_
  refine r_p (pc' := 1929) (p_iconst (n := 2) (v := 2) (by decide +kernel) rfl) ?_
  refine r_p (pc' := 1930) (p_iadd (by decide +kernel)) ?_
  refine r_sldx (by decide +kernel) hx fun v349 => ?_
  refine r_p (pc' := 1932) (p_tload_n 0 (k := 0) (Nat.le_of_ble_eq_true rfl) (by decide +kernel) rfl) ?_
  refine r_p (pc' := 1934) (p_iload 4 (i := 4) (by decide +kernel) rfl) ?_
  refine r_p (pc' := 1935) (p_iconst (n := 3) (v := 3) (by decide +kernel) rfl) ?_
  refine r_p (pc' := 1936) (p_iadd (by decide +kernel)) ?_
  refine r_sldx (by decide +kernel) hx fun v350 => ?_
  refine r_join 1945 (fun (x352 : Int32) => [(0, vt 999), (1, vr v1), (2, vr v2), (3, vr v3), (4, vi x)]) (fun (x352 : Int32) => [vi x352, vi v349, vi v348, vr v1]) (fun x352 s => ?_) (fun K353 hj354 => ?_)
  · refine r_p (pc' := 1946) (p_aload_n 3 (k := 3) (by decide +kernel) rfl) ?_
    refine r_callSH msL_240 (ctL_clock v1 v348 v349 x352 v3) (as := [vr v1, vi v348, vi v349, vi x352, vr v3]) (st := []) rfl rfl (by decide +kernel) rfl (Nat.le_of_ble_eq_true rfl) (Nat.le_of_ble_eq_true rfl) fun v355 s => ?_
    refine r_p (pc' := 1951) (p_istore (i := 5) (lv' := [(5, vi v355), (0, vt 999), (1, vr v1), (2, vr v2), (3, vr v3), (4, vi x)]) (by decide +kernel) (Nat.le_of_ble_eq_true rfl) rfl) ?_
    refine r_p (pc' := 1952) (p_aload_n 3 (k := 2) (by decide +kernel) rfl) ?_
    refine r_p (pc' := 1953) (p_tload_n 1 (k := 0) (Nat.le_of_ble_eq_true rfl) (by decide +kernel) rfl) ?_
    refine r_p (pc' := 1955) (p_iload 5 (i := 4) (by decide +kernel) rfl) ?_
    refine r_p (pc' := 1956) (p_iconst (n := 1) (v := 1) (by decide +kernel) rfl) ?_
    refine r_p (pc' := 1957) (p_iadd (by decide +kernel)) ?_
    refine r_sldx (by decide +kernel) hx fun v356 => ?_
    refine r_p (pc' := 1959) (p_tload_n 1 (k := 0) (Nat.le_of_ble_eq_true rfl) (by decide +kernel) rfl) ?_
    refine r_p (pc' := 1961) (p_iload 5 (i := 4) (by decide +kernel) rfl) ?_
    refine r_p (pc' := 1962) (p_iconst (n := 2) (v := 2) (by decide +kernel) rfl) ?_
    refine r_p (pc' := 1963) (p_iadd (by decide +kernel)) ?_
    refine r_sldx (by decide +kernel) hx fun v357 => ?_
    refine r_p (pc' := 1965) (p_tload_n 1 (k := 0) (Nat.le_of_ble_eq_true rfl) (by decide +kernel) rfl) ?_
    refine r_p (pc' := 1967) (p_iload 5 (i := 4) (by decide +kernel) rfl) ?_
    refine r_p (pc' := 1968) (p_iconst (n := 3) (v := 3) (by decide +kernel) rfl) ?_
    refine r_p (pc' := 1969) (p_iadd (by decide +kernel)) ?_
    refine r_sldx (by decide +kernel) hx fun v358 => ?_
    refine r_join 1978 (fun (x360 : Int32) => [(0, vt 999), (1, vr v1), (2, vr v2), (3, vr v3), (4, vi x), (5, vi v355)]) (fun (x360 : Int32) => [vi x360, vi v357, vi v356, vr v2]) (fun x360 s => ?_) (fun K361 hj362 => ?_)
    · refine r_callVI mvL_242 (ctX12_clock v2 v356 v357 x360) (rcX12_clock v2 v356 v357 x360) ⟨_, _, rfl⟩ (as := [vi v356, vi v357, vi x360]) (st := []) rfl rfl (by decide +kernel) rfl (Nat.le_of_ble_eq_true rfl) (Nat.le_of_ble_eq_true rfl) fun v363 s => ?_
      refine r_p (pc' := 1983) (p_istore (i := 6) (lv' := [(6, vi v363), (0, vt 999), (1, vr v1), (2, vr v2), (3, vr v3), (4, vi x), (5, vi v355)]) (by decide +kernel) (Nat.le_of_ble_eq_true rfl) rfl) ?_
      refine r_p (pc' := 1984) (p_aload_n 3 (k := 2) (by decide +kernel) rfl) ?_
      refine r_callVI mvL_151 (ctX12_thrown v2) (rcX12_thrown v2) ⟨_, _, rfl⟩ (as := []) (st := []) rfl rfl (by decide +kernel) rfl (Nat.le_of_ble_eq_true rfl) (Nat.le_of_ble_eq_true rfl) fun v364 s => ?_
      refine r_p (pc' := 1989) (p_iload 6 (i := 5) (by decide +kernel) rfl) ?_
      refine r_icmpeq (off := 5) (tgt := 1994) (by decide +kernel) (by decide) (fun h365 => ?_) (fun h365 => ?_)
      · refine r_p (pc' := 1996) (p_iload 6 (i := 5) (by decide +kernel) rfl) ?_
        refine r_ifne (off := 15) (tgt := 2011) (by decide +kernel) (by decide) (fun h366 => ?_) (fun h366 => ?_)
        · refine r_p (pc' := 2000) (p_aload_n 4 (k := 3) (by decide +kernel) rfl) ?_
          refine r_p (pc' := 2001) (p_iconst (n := 0) (v := 0) (by decide +kernel) rfl) ?_
          refine r_ldL (by decide +kernel) fun v367 => ?_
          refine r_p (pc' := 2004) (p_iload 0 (i := 6) (by decide +kernel) rfl) ?_
          refine r_p (pc' := 2005) (p_i2l (by decide +kernel)) ?_
          refine r_p (pc' := 2006) (p_lcmp (by decide +kernel)) ?_
          refine r_ifeq (off := 5) (tgt := 2011) (by decide +kernel) (by decide) (fun h368 => ?_) (fun h368 => ?_)
          · refine r_p (pc' := 2977) (p_goto (off := 966) (tgt := 2977) (by decide +kernel) (by decide)) ?_
            refine r_p (pc' := 2980) (p_iinc 5 (i := 4) (n := 6) (x := x) (v := x + 6) (lv' := [(4, vi (x + 6)), (6, vi v363), (0, vt 999), (1, vr v1), (2, vr v2), (3, vr v3), (5, vi v355)]) (by decide +kernel) rfl rfl (Nat.le_of_ble_eq_true rfl) rfl) ?_
            refine r_p (pc' := 23) (p_goto (off := -2957) (tgt := 23) (by decide +kernel) (by decide)) ?_
            refine r_sub (lv' := [(0, vt 999), (1, vr v1), (2, vr v2), (3, vr v3), (4, vi (x + 6))]) [2, 3, 4, 5, 0] rfl ?_
            exact hb (x + 6) _
          · refine r_p (pc' := 2010) (p_iconst (n := 0) (v := 0) (by decide +kernel) rfl) ?_
            exact r_iret hk rfl _ rfl rfl (by decide +kernel)
        · refine r_p (pc' := 2977) (p_goto (off := 966) (tgt := 2977) (by decide +kernel) (by decide)) ?_
          refine r_p (pc' := 2980) (p_iinc 5 (i := 4) (n := 6) (x := x) (v := x + 6) (lv' := [(4, vi (x + 6)), (6, vi v363), (0, vt 999), (1, vr v1), (2, vr v2), (3, vr v3), (5, vi v355)]) (by decide +kernel) rfl rfl (Nat.le_of_ble_eq_true rfl) rfl) ?_
          refine r_p (pc' := 23) (p_goto (off := -2957) (tgt := 23) (by decide +kernel) (by decide)) ?_
          refine r_sub (lv' := [(0, vt 999), (1, vr v1), (2, vr v2), (3, vr v3), (4, vi (x + 6))]) [2, 3, 4, 5, 0] rfl ?_
          exact hb (x + 6) _
      · refine r_p (pc' := 1993) (p_iconst (n := 0) (v := 0) (by decide +kernel) rfl) ?_
        exact r_iret hk rfl _ rfl rfl (by decide +kernel)
    · refine r_ifeq (off := 7) (tgt := 1977) (by decide +kernel) (by decide) (fun h359 => ?_) (fun h359 => ?_)
      · refine r_p (pc' := 1978) (p_iconst (n := 0) (v := 0) (by decide +kernel) rfl) ?_
        refine r_sub (lv' := [(0, vt 999), (1, vr v1), (2, vr v2), (3, vr v3), (4, vi x), (5, vi v355)]) [1, 2, 3, 4, 5, 0] rfl ?_
        exact hj362 0 _
      · refine r_p (pc' := 1974) (p_iconst (n := 1) (v := 1) (by decide +kernel) rfl) ?_
        refine r_p (pc' := 1978) (p_goto (off := 4) (tgt := 1978) (by decide +kernel) (by decide)) ?_
        refine r_sub (lv' := [(0, vt 999), (1, vr v1), (2, vr v2), (3, vr v3), (4, vi x), (5, vi v355)]) [1, 2, 3, 4, 5, 0] rfl ?_
        exact hj362 1 _
  · refine r_ifeq (off := 7) (tgt := 1944) (by decide +kernel) (by decide) (fun h351 => ?_) (fun h351 => ?_)
    · refine r_p (pc' := 1945) (p_iconst (n := 0) (v := 0) (by decide +kernel) rfl) ?_
      exact hj354 0 _
    · refine r_p (pc' := 1941) (p_iconst (n := 1) (v := 1) (by decide +kernel) rfl) ?_
      refine r_p (pc' := 1945) (p_goto (off := 4) (tgt := 1945) (by decide +kernel) (by decide)) ?_
      exact hj354 1 _
set_option maxHeartbeats 4000000 in
set_option maxRecDepth 100000 in
theorem rmL_main_c29 (n0 : Nat) (xs : Nat → Int32) (v1 : Nat) (v2 : Nat) (v3 : Nat) (x : Int32) (v6 : Int32) (Y : DyA) (hx : wX (yW Y) = xs ∧ wL (yW Y) = n0) (K : Int32 ⊕ (Unit ⊕ Unit) → MM Int32) (hb : ∀ (x : Int32) (s : aS), Rr aL_main Y 23 [(0, vt 999), (1, vr v1), (2, vr v2), (3, vr v3), (4, vi x)] [] (mret (.inl x) : MM (Int32 ⊕ (Unit ⊕ Unit))) K rI s) (hk : K (.inr (.inr ())) = mret 0) (hk1 : K (.inr (.inl ())) = mret 1) (s : aS) : Rr aL_main Y 2014 [(0, vt 999), (1, vr v1), (2, vr v2), (3, vr v3), (4, vi x)] [] (mL_main_c29 n0 xs v1 v2 v3 x) K rI s := by
  unfold mL_main_c29
  refine r_p (pc' := 2015) (p_aload_n 1 (k := 1) (by decide +kernel) rfl) ?_
  refine r_p (pc' := 2016) (p_tload_n 0 (k := 0) (Nat.le_of_ble_eq_true rfl) (by decide +kernel) rfl) ?_
  refine r_p (pc' := 2018) (p_iload 4 (i := 4) (by decide +kernel) rfl) ?_
  refine r_p (pc' := 2019) (p_iconst (n := 1) (v := 1) (by decide +kernel) rfl) ?_
  refine r_p (pc' := 2020) (p_iadd (by decide +kernel)) ?_
  refine r_sldx (by decide +kernel) hx fun v370 => ?_
  refine r_join 2029 (fun (x372 : Int32) => [(0, vt 999), (1, vr v1), (2, vr v2), (3, vr v3), (4, vi x)]) (fun (x372 : Int32) => [vi x372, vr v1]) (fun x372 s => ?_) (fun K373 hj374 => ?_)
  · refine r_p (pc' := 2030) (p_aload_n 3 (k := 3) (by decide +kernel) rfl) ?_
    refine r_callSH msL_243 (ctL_together v1 x372 v3) (as := [vr v1, vi x372, vr v3]) (st := []) rfl rfl (by decide +kernel) rfl (Nat.le_of_ble_eq_true rfl) (Nat.le_of_ble_eq_true rfl) fun v375 s => ?_
    refine r_p (pc' := 2035) (p_istore (i := 5) (lv' := [(5, vi v375), (0, vt 999), (1, vr v1), (2, vr v2), (3, vr v3), (4, vi x)]) (by decide +kernel) (Nat.le_of_ble_eq_true rfl) rfl) ?_
    refine r_p (pc' := 2036) (p_aload_n 3 (k := 2) (by decide +kernel) rfl) ?_
    refine r_p (pc' := 2037) (p_tload_n 1 (k := 0) (Nat.le_of_ble_eq_true rfl) (by decide +kernel) rfl) ?_
    refine r_p (pc' := 2039) (p_iload 5 (i := 4) (by decide +kernel) rfl) ?_
    refine r_p (pc' := 2040) (p_iconst (n := 1) (v := 1) (by decide +kernel) rfl) ?_
    refine r_p (pc' := 2041) (p_iadd (by decide +kernel)) ?_
    refine r_sldx (by decide +kernel) hx fun v376 => ?_
    refine r_join 2050 (fun (x378 : Int32) => [(0, vt 999), (1, vr v1), (2, vr v2), (3, vr v3), (4, vi x), (5, vi v375)]) (fun (x378 : Int32) => [vi x378, vr v2]) (fun x378 s => ?_) (fun K379 hj380 => ?_)
    · refine r_callVI mvL_246 (ctX12_together v2 x378) (rcX12_together v2 x378) ⟨_, _, rfl⟩ (as := [vi x378]) (st := []) rfl rfl (by decide +kernel) rfl (Nat.le_of_ble_eq_true rfl) (Nat.le_of_ble_eq_true rfl) fun v381 s => ?_
      refine r_p (pc' := 2055) (p_istore (i := 6) (lv' := [(6, vi v381), (0, vt 999), (1, vr v1), (2, vr v2), (3, vr v3), (4, vi x), (5, vi v375)]) (by decide +kernel) (Nat.le_of_ble_eq_true rfl) rfl) ?_
      refine r_p (pc' := 2056) (p_aload_n 3 (k := 2) (by decide +kernel) rfl) ?_
      refine r_callVI mvL_151 (ctX12_thrown v2) (rcX12_thrown v2) ⟨_, _, rfl⟩ (as := []) (st := []) rfl rfl (by decide +kernel) rfl (Nat.le_of_ble_eq_true rfl) (Nat.le_of_ble_eq_true rfl) fun v382 s => ?_
      refine r_p (pc' := 2061) (p_iload 6 (i := 5) (by decide +kernel) rfl) ?_
      refine r_icmpeq (off := 5) (tgt := 2066) (by decide +kernel) (by decide) (fun h383 => ?_) (fun h383 => ?_)
      · refine r_p (pc' := 2068) (p_iload 6 (i := 5) (by decide +kernel) rfl) ?_
        refine r_ifne (off := 15) (tgt := 2083) (by decide +kernel) (by decide) (fun h384 => ?_) (fun h384 => ?_)
        · refine r_p (pc' := 2072) (p_aload_n 4 (k := 3) (by decide +kernel) rfl) ?_
          refine r_p (pc' := 2073) (p_iconst (n := 0) (v := 0) (by decide +kernel) rfl) ?_
          refine r_ldL (by decide +kernel) fun v385 => ?_
          refine r_p (pc' := 2076) (p_iload 0 (i := 6) (by decide +kernel) rfl) ?_
          refine r_p (pc' := 2077) (p_i2l (by decide +kernel)) ?_
          refine r_p (pc' := 2078) (p_lcmp (by decide +kernel)) ?_
          refine r_ifeq (off := 5) (tgt := 2083) (by decide +kernel) (by decide) (fun h386 => ?_) (fun h386 => ?_)
          · refine r_p (pc' := 2977) (p_goto (off := 894) (tgt := 2977) (by decide +kernel) (by decide)) ?_
            refine r_p (pc' := 2980) (p_iinc 5 (i := 4) (n := 6) (x := x) (v := x + 6) (lv' := [(4, vi (x + 6)), (6, vi v381), (0, vt 999), (1, vr v1), (2, vr v2), (3, vr v3), (5, vi v375)]) (by decide +kernel) rfl rfl (Nat.le_of_ble_eq_true rfl) rfl) ?_
            refine r_p (pc' := 23) (p_goto (off := -2957) (tgt := 23) (by decide +kernel) (by decide)) ?_
            refine r_sub (lv' := [(0, vt 999), (1, vr v1), (2, vr v2), (3, vr v3), (4, vi (x + 6))]) [2, 3, 4, 5, 0] rfl ?_
            exact hb (x + 6) _
          · refine r_p (pc' := 2082) (p_iconst (n := 0) (v := 0) (by decide +kernel) rfl) ?_
            exact r_iret hk rfl _ rfl rfl (by decide +kernel)
        · refine r_p (pc' := 2977) (p_goto (off := 894) (tgt := 2977) (by decide +kernel) (by decide)) ?_
          refine r_p (pc' := 2980) (p_iinc 5 (i := 4) (n := 6) (x := x) (v := x + 6) (lv' := [(4, vi (x + 6)), (6, vi v381), (0, vt 999), (1, vr v1), (2, vr v2), (3, vr v3), (5, vi v375)]) (by decide +kernel) rfl rfl (Nat.le_of_ble_eq_true rfl) rfl) ?_
          refine r_p (pc' := 23) (p_goto (off := -2957) (tgt := 23) (by decide +kernel) (by decide)) ?_
          refine r_sub (lv' := [(0, vt 999), (1, vr v1), (2, vr v2), (3, vr v3), (4, vi (x + 6))]) [2, 3, 4, 5, 0] rfl ?_
          exact hb (x + 6) _
      · refine r_p (pc' := 2065) (p_iconst (n := 0) (v := 0) (by decide +kernel) rfl) ?_
        exact r_iret hk rfl _ rfl rfl (by decide +kernel)
    · refine r_ifeq (off := 7) (tgt := 2049) (by decide +kernel) (by decide) (fun h377 => ?_) (fun h377 => ?_)
      · refine r_p (pc' := 2050) (p_iconst (n := 0) (v := 0) (by decide +kernel) rfl) ?_
        refine r_sub (lv' := [(0, vt 999), (1, vr v1), (2, vr v2), (3, vr v3), (4, vi x), (5, vi v375)]) [1, 2, 3, 4, 5, 0] rfl ?_
        exact hj380 0 _
      · refine r_p (pc' := 2046) (p_iconst (n := 1) (v := 1) (by decide +kernel) rfl) ?_
        refine r_p (pc' := 2050) (p_goto (off := 4) (tgt := 2050) (by decide +kernel) (by decide)) ?_
        refine r_sub (lv' := [(0, vt 999), (1, vr v1), (2, vr v2), (3, vr v3), (4, vi x), (5, vi v375)]) [1, 2, 3, 4, 5, 0] rfl ?_
        exact hj380 1 _
  · refine r_ifeq (off := 7) (tgt := 2028) (by decide +kernel) (by decide) (fun h371 => ?_) (fun h371 => ?_)
    · refine r_p (pc' := 2029) (p_iconst (n := 0) (v := 0) (by decide +kernel) rfl) ?_
      exact hj374 0 _
    · refine r_p (pc' := 2025) (p_iconst (n := 1) (v := 1) (by decide +kernel) rfl) ?_
      refine r_p (pc' := 2029) (p_goto (off := 4) (tgt := 2029) (by decide +kernel) (by decide)) ?_
      exact hj374 1 _
set_option maxHeartbeats 4000000 in
set_option maxRecDepth 100000 in
theorem rmL_main_c30 (n0 : Nat) (xs : Nat → Int32) (v1 : Nat) (v2 : Nat) (v3 : Nat) (x : Int32) (v6 : Int32) (Y : DyA) (hx : wX (yW Y) = xs ∧ wL (yW Y) = n0) (K : Int32 ⊕ (Unit ⊕ Unit) → MM Int32) (hb : ∀ (x : Int32) (s : aS), Rr aL_main Y 23 [(0, vt 999), (1, vr v1), (2, vr v2), (3, vr v3), (4, vi x)] [] (mret (.inl x) : MM (Int32 ⊕ (Unit ⊕ Unit))) K rI s) (hk : K (.inr (.inr ())) = mret 0) (hk1 : K (.inr (.inl ())) = mret 1) (s : aS) : Rr aL_main Y 2086 [(0, vt 999), (1, vr v1), (2, vr v2), (3, vr v3), (4, vi x)] [] (mL_main_c30 v1 v2 x) K rI s := by
  unfold mL_main_c30
  refine r_p (pc' := 2087) (p_aload_n 1 (k := 1) (by decide +kernel) rfl) ?_
  refine r_callVI mvL_247 (ctX11_heir v1) (rcX11_heir v1) ⟨_, _, rfl⟩ (as := []) (st := []) rfl rfl (by decide +kernel) rfl (Nat.le_of_ble_eq_true rfl) (Nat.le_of_ble_eq_true rfl) fun v388 s => ?_
  refine r_p (pc' := 2091) (p_aload_n 2 (k := 2) (by decide +kernel) rfl) ?_
  refine r_callVI mvL_250 (ctX12_heir v2) (rcX12_heir v2) ⟨_, _, rfl⟩ (as := []) (st := [vi v388]) rfl rfl (by decide +kernel) rfl (Nat.le_of_ble_eq_true rfl) (Nat.le_of_ble_eq_true rfl) fun v389 s => ?_
  refine r_icmpeq (off := 883) (tgt := 2977) (by decide +kernel) (by decide) (fun h390 => ?_) (fun h390 => ?_)
  · refine r_p (pc' := 2980) (p_iinc 4 (i := 4) (n := 6) (x := x) (v := x + 6) (lv' := [(4, vi (x + 6)), (0, vt 999), (1, vr v1), (2, vr v2), (3, vr v3)]) (by decide +kernel) rfl rfl (Nat.le_of_ble_eq_true rfl) rfl) ?_
    refine r_p (pc' := 23) (p_goto (off := -2957) (tgt := 23) (by decide +kernel) (by decide)) ?_
    refine r_sub (lv' := [(0, vt 999), (1, vr v1), (2, vr v2), (3, vr v3), (4, vi (x + 6))]) [1, 2, 3, 4, 0] rfl ?_
    exact hb (x + 6) _
  · refine r_p (pc' := 2098) (p_iconst (n := 0) (v := 0) (by decide +kernel) rfl) ?_
    exact r_iret hk rfl _ rfl rfl (by decide +kernel)
set_option maxHeartbeats 4000000 in
set_option maxRecDepth 100000 in
theorem rmL_main_c31 (n0 : Nat) (xs : Nat → Int32) (v1 : Nat) (v2 : Nat) (v3 : Nat) (x : Int32) (v6 : Int32) (Y : DyA) (hx : wX (yW Y) = xs ∧ wL (yW Y) = n0) (K : Int32 ⊕ (Unit ⊕ Unit) → MM Int32) (hb : ∀ (x : Int32) (s : aS), Rr aL_main Y 23 [(0, vt 999), (1, vr v1), (2, vr v2), (3, vr v3), (4, vi x)] [] (mret (.inl x) : MM (Int32 ⊕ (Unit ⊕ Unit))) K rI s) (hk : K (.inr (.inr ())) = mret 0) (hk1 : K (.inr (.inl ())) = mret 1) (s : aS) : Rr aL_main Y 2099 [(0, vt 999), (1, vr v1), (2, vr v2), (3, vr v3), (4, vi x)] [] (mL_main_c31 n0 xs v1 v2 v3 x) K rI s := by
  unfold mL_main_c31
  refine r_p (pc' := 2100) (p_aload_n 1 (k := 1) (by decide +kernel) rfl) ?_
  refine r_p (pc' := 2101) (p_tload_n 0 (k := 0) (Nat.le_of_ble_eq_true rfl) (by decide +kernel) rfl) ?_
  refine r_p (pc' := 2103) (p_iload 4 (i := 4) (by decide +kernel) rfl) ?_
  refine r_p (pc' := 2104) (p_iconst (n := 1) (v := 1) (by decide +kernel) rfl) ?_
  refine r_p (pc' := 2105) (p_iadd (by decide +kernel)) ?_
  refine r_sldx (by decide +kernel) hx fun v392 => ?_
  refine r_p (pc' := 2107) (p_tload_n 0 (k := 0) (Nat.le_of_ble_eq_true rfl) (by decide +kernel) rfl) ?_
  refine r_p (pc' := 2109) (p_iload 4 (i := 4) (by decide +kernel) rfl) ?_
  refine r_p (pc' := 2110) (p_iconst (n := 2) (v := 2) (by decide +kernel) rfl) ?_
  refine r_p (pc' := 2111) (p_iadd (by decide +kernel)) ?_
  refine r_sldx (by decide +kernel) hx fun v393 => ?_
  refine r_p (pc' := 2113) (p_aload_n 3 (k := 3) (by decide +kernel) rfl) ?_
  refine r_callSH msL_251 (ctL_jury v1 v392 v393 v3) (as := [vr v1, vi v392, vi v393, vr v3]) (st := []) rfl rfl (by decide +kernel) rfl (Nat.le_of_ble_eq_true rfl) (Nat.le_of_ble_eq_true rfl) fun v394 s => ?_
  refine r_p (pc' := 2118) (p_istore (i := 5) (lv' := [(5, vi v394), (0, vt 999), (1, vr v1), (2, vr v2), (3, vr v3), (4, vi x)]) (by decide +kernel) (Nat.le_of_ble_eq_true rfl) rfl) ?_
  refine r_p (pc' := 2119) (p_aload_n 3 (k := 2) (by decide +kernel) rfl) ?_
  refine r_p (pc' := 2120) (p_tload_n 1 (k := 0) (Nat.le_of_ble_eq_true rfl) (by decide +kernel) rfl) ?_
  refine r_p (pc' := 2122) (p_iload 5 (i := 4) (by decide +kernel) rfl) ?_
  refine r_p (pc' := 2123) (p_iconst (n := 1) (v := 1) (by decide +kernel) rfl) ?_
  refine r_p (pc' := 2124) (p_iadd (by decide +kernel)) ?_
  refine r_sldx (by decide +kernel) hx fun v395 => ?_
  refine r_p (pc' := 2126) (p_tload_n 1 (k := 0) (Nat.le_of_ble_eq_true rfl) (by decide +kernel) rfl) ?_
  refine r_p (pc' := 2128) (p_iload 5 (i := 4) (by decide +kernel) rfl) ?_
  refine r_p (pc' := 2129) (p_iconst (n := 2) (v := 2) (by decide +kernel) rfl) ?_
  refine r_p (pc' := 2130) (p_iadd (by decide +kernel)) ?_
  refine r_sldx (by decide +kernel) hx fun v396 => ?_
  refine r_callVI mvL_253 (ctX12_jury v2 v395 v396) (rcX12_jury v2 v395 v396) ⟨_, _, rfl⟩ (as := [vi v395, vi v396]) (st := []) rfl rfl (by decide +kernel) rfl (Nat.le_of_ble_eq_true rfl) (Nat.le_of_ble_eq_true rfl) fun v397 s => ?_
  refine r_p (pc' := 2136) (p_istore (i := 6) (lv' := [(6, vi v397), (5, vi v394), (0, vt 999), (1, vr v1), (2, vr v2), (3, vr v3), (4, vi x)]) (by decide +kernel) (Nat.le_of_ble_eq_true rfl) rfl) ?_
  refine r_p (pc' := 2137) (p_aload_n 4 (k := 2) (by decide +kernel) rfl) ?_
  refine r_callVI mvL_151 (ctX12_thrown v2) (rcX12_thrown v2) ⟨_, _, rfl⟩ (as := []) (st := []) rfl rfl (by decide +kernel) rfl (Nat.le_of_ble_eq_true rfl) (Nat.le_of_ble_eq_true rfl) fun v398 s => ?_
  refine r_p (pc' := 2142) (p_iload 1 (i := 5) (by decide +kernel) rfl) ?_
  refine r_icmpeq (off := 5) (tgt := 2147) (by decide +kernel) (by decide) (fun h399 => ?_) (fun h399 => ?_)
  · refine r_p (pc' := 2149) (p_iload 1 (i := 5) (by decide +kernel) rfl) ?_
    refine r_ifne (off := 22) (tgt := 2171) (by decide +kernel) (by decide) (fun h400 => ?_) (fun h400 => ?_)
    · refine r_p (pc' := 2153) (p_aload_n 5 (k := 3) (by decide +kernel) rfl) ?_
      refine r_p (pc' := 2154) (p_iconst (n := 0) (v := 0) (by decide +kernel) rfl) ?_
      refine r_ldL (by decide +kernel) fun v401 => ?_
      refine r_p (pc' := 2157) (p_iload 0 (i := 6) (by decide +kernel) rfl) ?_
      refine r_join 2165 (fun (x403 : Int64) => [(0, vt 999), (1, vr v1), (2, vr v2), (3, vr v3), (4, vi x)]) (fun (x403 : Int64) => [vl x403, vl v401]) (fun x403 s => ?_) (fun K404 hj405 => ?_)
      · refine r_p (pc' := 2166) (p_lcmp (by decide +kernel)) ?_
        refine r_ifeq (off := 5) (tgt := 2171) (by decide +kernel) (by decide) (fun h406 => ?_) (fun h406 => ?_)
        · refine r_p (pc' := 2977) (p_goto (off := 806) (tgt := 2977) (by decide +kernel) (by decide)) ?_
          refine r_p (pc' := 2980) (p_iinc 4 (i := 4) (n := 6) (x := x) (v := x + 6) (lv' := [(4, vi (x + 6)), (0, vt 999), (1, vr v1), (2, vr v2), (3, vr v3)]) (by decide +kernel) rfl rfl (Nat.le_of_ble_eq_true rfl) rfl) ?_
          refine r_p (pc' := 23) (p_goto (off := -2957) (tgt := 23) (by decide +kernel) (by decide)) ?_
          refine r_sub (lv' := [(0, vt 999), (1, vr v1), (2, vr v2), (3, vr v3), (4, vi (x + 6))]) [1, 2, 3, 4, 0] rfl ?_
          exact hb (x + 6) _
        · refine r_p (pc' := 2170) (p_iconst (n := 0) (v := 0) (by decide +kernel) rfl) ?_
          exact r_iret hk rfl _ rfl rfl (by decide +kernel)
      · refine r_ifeq (off := 7) (tgt := 2164) (by decide +kernel) (by decide) (fun h402 => ?_) (fun h402 => ?_)
        · refine r_p (pc' := 2165) (p_lconst (n := 0) (v := 0) (by decide +kernel) rfl) ?_
          refine r_sub (lv' := [(0, vt 999), (1, vr v1), (2, vr v2), (3, vr v3), (4, vi x)]) [2, 3, 4, 5, 6] rfl ?_
          exact hj405 0 _
        · refine r_p (pc' := 2161) (p_lconst (n := 1) (v := 1) (by decide +kernel) rfl) ?_
          refine r_p (pc' := 2165) (p_goto (off := 4) (tgt := 2165) (by decide +kernel) (by decide)) ?_
          refine r_sub (lv' := [(0, vt 999), (1, vr v1), (2, vr v2), (3, vr v3), (4, vi x)]) [2, 3, 4, 5, 6] rfl ?_
          exact hj405 1 _
    · refine r_p (pc' := 2977) (p_goto (off := 806) (tgt := 2977) (by decide +kernel) (by decide)) ?_
      refine r_p (pc' := 2980) (p_iinc 6 (i := 4) (n := 6) (x := x) (v := x + 6) (lv' := [(4, vi (x + 6)), (6, vi v397), (5, vi v394), (0, vt 999), (1, vr v1), (2, vr v2), (3, vr v3)]) (by decide +kernel) rfl rfl (Nat.le_of_ble_eq_true rfl) rfl) ?_
      refine r_p (pc' := 23) (p_goto (off := -2957) (tgt := 23) (by decide +kernel) (by decide)) ?_
      refine r_sub (lv' := [(0, vt 999), (1, vr v1), (2, vr v2), (3, vr v3), (4, vi (x + 6))]) [3, 4, 5, 6, 0] rfl ?_
      exact hb (x + 6) _
  · refine r_p (pc' := 2146) (p_iconst (n := 0) (v := 0) (by decide +kernel) rfl) ?_
    exact r_iret hk rfl _ rfl rfl (by decide +kernel)
set_option maxHeartbeats 4000000 in
set_option maxRecDepth 100000 in
theorem rmL_main_c32 (n0 : Nat) (xs : Nat → Int32) (v1 : Nat) (v2 : Nat) (v3 : Nat) (x : Int32) (v6 : Int32) (Y : DyA) (hx : wX (yW Y) = xs ∧ wL (yW Y) = n0) (K : Int32 ⊕ (Unit ⊕ Unit) → MM Int32) (hb : ∀ (x : Int32) (s : aS), Rr aL_main Y 23 [(0, vt 999), (1, vr v1), (2, vr v2), (3, vr v3), (4, vi x)] [] (mret (.inl x) : MM (Int32 ⊕ (Unit ⊕ Unit))) K rI s) (hk : K (.inr (.inr ())) = mret 0) (hk1 : K (.inr (.inl ())) = mret 1) (s : aS) : Rr aL_main Y 2174 [(0, vt 999), (1, vr v1), (2, vr v2), (3, vr v3), (4, vi x)] [] (mL_main_c32 n0 xs v1 v2 v3 x) K rI s := by
  unfold mL_main_c32
  refine r_p (pc' := 2175) (p_aload_n 1 (k := 1) (by decide +kernel) rfl) ?_
  refine r_p (pc' := 2176) (p_tload_n 0 (k := 0) (Nat.le_of_ble_eq_true rfl) (by decide +kernel) rfl) ?_
  refine r_p (pc' := 2178) (p_iload 4 (i := 4) (by decide +kernel) rfl) ?_
  refine r_p (pc' := 2179) (p_iconst (n := 1) (v := 1) (by decide +kernel) rfl) ?_
  refine r_p (pc' := 2180) (p_iadd (by decide +kernel)) ?_
  refine r_sldx (by decide +kernel) hx fun v408 => ?_
  refine r_p (pc' := 2182) (p_tload_n 0 (k := 0) (Nat.le_of_ble_eq_true rfl) (by decide +kernel) rfl) ?_
  refine r_p (pc' := 2184) (p_iload 4 (i := 4) (by decide +kernel) rfl) ?_
  refine r_p (pc' := 2185) (p_iconst (n := 2) (v := 2) (by decide +kernel) rfl) ?_
  refine r_p (pc' := 2186) (p_iadd (by decide +kernel)) ?_
  refine r_sldx (by decide +kernel) hx fun v409 => ?_
  refine r_p (pc' := 2188) (p_aload_n 3 (k := 3) (by decide +kernel) rfl) ?_
  refine r_callSH msL_254 (ctL_alibi v1 v408 v409 v3) (as := [vr v1, vi v408, vi v409, vr v3]) (st := []) rfl rfl (by decide +kernel) rfl (Nat.le_of_ble_eq_true rfl) (Nat.le_of_ble_eq_true rfl) fun v410 s => ?_
  refine r_p (pc' := 2193) (p_istore (i := 5) (lv' := [(5, vi v410), (0, vt 999), (1, vr v1), (2, vr v2), (3, vr v3), (4, vi x)]) (by decide +kernel) (Nat.le_of_ble_eq_true rfl) rfl) ?_
  refine r_p (pc' := 2194) (p_aload_n 3 (k := 2) (by decide +kernel) rfl) ?_
  refine r_p (pc' := 2195) (p_tload_n 1 (k := 0) (Nat.le_of_ble_eq_true rfl) (by decide +kernel) rfl) ?_
  refine r_p (pc' := 2197) (p_iload 5 (i := 4) (by decide +kernel) rfl) ?_
  refine r_p (pc' := 2198) (p_iconst (n := 1) (v := 1) (by decide +kernel) rfl) ?_
  refine r_p (pc' := 2199) (p_iadd (by decide +kernel)) ?_
  refine r_sldx (by decide +kernel) hx fun v411 => ?_
  refine r_p (pc' := 2201) (p_tload_n 1 (k := 0) (Nat.le_of_ble_eq_true rfl) (by decide +kernel) rfl) ?_
  refine r_p (pc' := 2203) (p_iload 5 (i := 4) (by decide +kernel) rfl) ?_
  refine r_p (pc' := 2204) (p_iconst (n := 2) (v := 2) (by decide +kernel) rfl) ?_
  refine r_p (pc' := 2205) (p_iadd (by decide +kernel)) ?_
  refine r_sldx (by decide +kernel) hx fun v412 => ?_
  refine r_callVI mvL_256 (ctX12_alibi v2 v411 v412) (rcX12_alibi v2 v411 v412) ⟨_, _, rfl⟩ (as := [vi v411, vi v412]) (st := []) rfl rfl (by decide +kernel) rfl (Nat.le_of_ble_eq_true rfl) (Nat.le_of_ble_eq_true rfl) fun v413 s => ?_
  refine r_p (pc' := 2211) (p_istore (i := 6) (lv' := [(6, vi v413), (5, vi v410), (0, vt 999), (1, vr v1), (2, vr v2), (3, vr v3), (4, vi x)]) (by decide +kernel) (Nat.le_of_ble_eq_true rfl) rfl) ?_
  refine r_p (pc' := 2212) (p_aload_n 4 (k := 2) (by decide +kernel) rfl) ?_
  refine r_callVI mvL_151 (ctX12_thrown v2) (rcX12_thrown v2) ⟨_, _, rfl⟩ (as := []) (st := []) rfl rfl (by decide +kernel) rfl (Nat.le_of_ble_eq_true rfl) (Nat.le_of_ble_eq_true rfl) fun v414 s => ?_
  refine r_p (pc' := 2217) (p_iload 1 (i := 5) (by decide +kernel) rfl) ?_
  refine r_icmpeq (off := 5) (tgt := 2222) (by decide +kernel) (by decide) (fun h415 => ?_) (fun h415 => ?_)
  · refine r_p (pc' := 2224) (p_iload 1 (i := 5) (by decide +kernel) rfl) ?_
    refine r_ifne (off := 22) (tgt := 2246) (by decide +kernel) (by decide) (fun h416 => ?_) (fun h416 => ?_)
    · refine r_p (pc' := 2228) (p_aload_n 5 (k := 3) (by decide +kernel) rfl) ?_
      refine r_p (pc' := 2229) (p_iconst (n := 0) (v := 0) (by decide +kernel) rfl) ?_
      refine r_ldL (by decide +kernel) fun v417 => ?_
      refine r_p (pc' := 2232) (p_iload 0 (i := 6) (by decide +kernel) rfl) ?_
      refine r_join 2240 (fun (x419 : Int64) => [(0, vt 999), (1, vr v1), (2, vr v2), (3, vr v3), (4, vi x)]) (fun (x419 : Int64) => [vl x419, vl v417]) (fun x419 s => ?_) (fun K420 hj421 => ?_)
      · refine r_p (pc' := 2241) (p_lcmp (by decide +kernel)) ?_
        refine r_ifeq (off := 5) (tgt := 2246) (by decide +kernel) (by decide) (fun h422 => ?_) (fun h422 => ?_)
        · refine r_p (pc' := 2977) (p_goto (off := 731) (tgt := 2977) (by decide +kernel) (by decide)) ?_
          refine r_p (pc' := 2980) (p_iinc 4 (i := 4) (n := 6) (x := x) (v := x + 6) (lv' := [(4, vi (x + 6)), (0, vt 999), (1, vr v1), (2, vr v2), (3, vr v3)]) (by decide +kernel) rfl rfl (Nat.le_of_ble_eq_true rfl) rfl) ?_
          refine r_p (pc' := 23) (p_goto (off := -2957) (tgt := 23) (by decide +kernel) (by decide)) ?_
          refine r_sub (lv' := [(0, vt 999), (1, vr v1), (2, vr v2), (3, vr v3), (4, vi (x + 6))]) [1, 2, 3, 4, 0] rfl ?_
          exact hb (x + 6) _
        · refine r_p (pc' := 2245) (p_iconst (n := 0) (v := 0) (by decide +kernel) rfl) ?_
          exact r_iret hk rfl _ rfl rfl (by decide +kernel)
      · refine r_ifeq (off := 7) (tgt := 2239) (by decide +kernel) (by decide) (fun h418 => ?_) (fun h418 => ?_)
        · refine r_p (pc' := 2240) (p_lconst (n := 0) (v := 0) (by decide +kernel) rfl) ?_
          refine r_sub (lv' := [(0, vt 999), (1, vr v1), (2, vr v2), (3, vr v3), (4, vi x)]) [2, 3, 4, 5, 6] rfl ?_
          exact hj421 0 _
        · refine r_p (pc' := 2236) (p_lconst (n := 1) (v := 1) (by decide +kernel) rfl) ?_
          refine r_p (pc' := 2240) (p_goto (off := 4) (tgt := 2240) (by decide +kernel) (by decide)) ?_
          refine r_sub (lv' := [(0, vt 999), (1, vr v1), (2, vr v2), (3, vr v3), (4, vi x)]) [2, 3, 4, 5, 6] rfl ?_
          exact hj421 1 _
    · refine r_p (pc' := 2977) (p_goto (off := 731) (tgt := 2977) (by decide +kernel) (by decide)) ?_
      refine r_p (pc' := 2980) (p_iinc 6 (i := 4) (n := 6) (x := x) (v := x + 6) (lv' := [(4, vi (x + 6)), (6, vi v413), (5, vi v410), (0, vt 999), (1, vr v1), (2, vr v2), (3, vr v3)]) (by decide +kernel) rfl rfl (Nat.le_of_ble_eq_true rfl) rfl) ?_
      refine r_p (pc' := 23) (p_goto (off := -2957) (tgt := 23) (by decide +kernel) (by decide)) ?_
      refine r_sub (lv' := [(0, vt 999), (1, vr v1), (2, vr v2), (3, vr v3), (4, vi (x + 6))]) [3, 4, 5, 6, 0] rfl ?_
      exact hb (x + 6) _
  · refine r_p (pc' := 2221) (p_iconst (n := 0) (v := 0) (by decide +kernel) rfl) ?_
    exact r_iret hk rfl _ rfl rfl (by decide +kernel)
set_option maxHeartbeats 4000000 in
set_option maxRecDepth 100000 in
theorem rmL_main_c33 (n0 : Nat) (xs : Nat → Int32) (v1 : Nat) (v2 : Nat) (v3 : Nat) (x : Int32) (v6 : Int32) (Y : DyA) (hx : wX (yW Y) = xs ∧ wL (yW Y) = n0) (K : Int32 ⊕ (Unit ⊕ Unit) → MM Int32) (hb : ∀ (x : Int32) (s : aS), Rr aL_main Y 23 [(0, vt 999), (1, vr v1), (2, vr v2), (3, vr v3), (4, vi x)] [] (mret (.inl x) : MM (Int32 ⊕ (Unit ⊕ Unit))) K rI s) (hk : K (.inr (.inr ())) = mret 0) (hk1 : K (.inr (.inl ())) = mret 1) (s : aS) : Rr aL_main Y 2249 [(0, vt 999), (1, vr v1), (2, vr v2), (3, vr v3), (4, vi x)] [] (mL_main_c33 v1 v2 x) K rI s := by
  unfold mL_main_c33
  refine r_p (pc' := 2250) (p_aload_n 1 (k := 1) (by decide +kernel) rfl) ?_
  refine r_callVI mvL_257 (ctX11_worstMaster v1) (rcX11_worstMaster v1) ⟨_, _, rfl⟩ (as := []) (st := []) rfl rfl (by decide +kernel) rfl (Nat.le_of_ble_eq_true rfl) (Nat.le_of_ble_eq_true rfl) fun v424 s => ?_
  refine r_p (pc' := 2254) (p_aload_n 2 (k := 2) (by decide +kernel) rfl) ?_
  refine r_callVI mvL_260 (ctX12_worstMaster v2) (rcX12_worstMaster v2) ⟨_, _, rfl⟩ (as := []) (st := [vi v424]) rfl rfl (by decide +kernel) rfl (Nat.le_of_ble_eq_true rfl) (Nat.le_of_ble_eq_true rfl) fun v425 s => ?_
  refine r_icmpeq (off := 720) (tgt := 2977) (by decide +kernel) (by decide) (fun h426 => ?_) (fun h426 => ?_)
  · refine r_p (pc' := 2980) (p_iinc 4 (i := 4) (n := 6) (x := x) (v := x + 6) (lv' := [(4, vi (x + 6)), (0, vt 999), (1, vr v1), (2, vr v2), (3, vr v3)]) (by decide +kernel) rfl rfl (Nat.le_of_ble_eq_true rfl) rfl) ?_
    refine r_p (pc' := 23) (p_goto (off := -2957) (tgt := 23) (by decide +kernel) (by decide)) ?_
    refine r_sub (lv' := [(0, vt 999), (1, vr v1), (2, vr v2), (3, vr v3), (4, vi (x + 6))]) [1, 2, 3, 4, 0] rfl ?_
    exact hb (x + 6) _
  · refine r_p (pc' := 2261) (p_iconst (n := 0) (v := 0) (by decide +kernel) rfl) ?_
    exact r_iret hk rfl _ rfl rfl (by decide +kernel)
set_option maxHeartbeats 4000000 in
set_option maxRecDepth 100000 in
theorem rmL_main_c34 (n0 : Nat) (xs : Nat → Int32) (v1 : Nat) (v2 : Nat) (v3 : Nat) (x : Int32) (v6 : Int32) (Y : DyA) (hx : wX (yW Y) = xs ∧ wL (yW Y) = n0) (K : Int32 ⊕ (Unit ⊕ Unit) → MM Int32) (hb : ∀ (x : Int32) (s : aS), Rr aL_main Y 23 [(0, vt 999), (1, vr v1), (2, vr v2), (3, vr v3), (4, vi x)] [] (mret (.inl x) : MM (Int32 ⊕ (Unit ⊕ Unit))) K rI s) (hk : K (.inr (.inr ())) = mret 0) (hk1 : K (.inr (.inl ())) = mret 1) (s : aS) : Rr aL_main Y 2262 [(0, vt 999), (1, vr v1), (2, vr v2), (3, vr v3), (4, vi x)] [] (mL_main_c34 n0 xs v1 v2 v3 x) K rI s := by
  unfold mL_main_c34
  refine r_p (pc' := 2263) (p_aload_n 1 (k := 1) (by decide +kernel) rfl) ?_
  refine r_p (pc' := 2264) (p_tload_n 0 (k := 0) (Nat.le_of_ble_eq_true rfl) (by decide +kernel) rfl) ?_
  refine r_p (pc' := 2266) (p_iload 4 (i := 4) (by decide +kernel) rfl) ?_
  refine r_p (pc' := 2267) (p_iconst (n := 1) (v := 1) (by decide +kernel) rfl) ?_
  refine r_p (pc' := 2268) (p_iadd (by decide +kernel)) ?_
  refine r_sldx (by decide +kernel) hx fun v428 => ?_
  refine r_p (pc' := 2270) (p_tload_n 0 (k := 0) (Nat.le_of_ble_eq_true rfl) (by decide +kernel) rfl) ?_
  refine r_p (pc' := 2272) (p_iload 4 (i := 4) (by decide +kernel) rfl) ?_
  refine r_p (pc' := 2273) (p_iconst (n := 2) (v := 2) (by decide +kernel) rfl) ?_
  refine r_p (pc' := 2274) (p_iadd (by decide +kernel)) ?_
  refine r_sldx (by decide +kernel) hx fun v429 => ?_
  refine r_p (pc' := 2276) (p_aload_n 3 (k := 3) (by decide +kernel) rfl) ?_
  refine r_callSH msL_261 (ctL_pairs v1 v428 v429 v3) (as := [vr v1, vi v428, vi v429, vr v3]) (st := []) rfl rfl (by decide +kernel) rfl (Nat.le_of_ble_eq_true rfl) (Nat.le_of_ble_eq_true rfl) fun v430 s => ?_
  refine r_p (pc' := 2281) (p_istore (i := 5) (lv' := [(5, vi v430), (0, vt 999), (1, vr v1), (2, vr v2), (3, vr v3), (4, vi x)]) (by decide +kernel) (Nat.le_of_ble_eq_true rfl) rfl) ?_
  refine r_p (pc' := 2282) (p_aload_n 3 (k := 2) (by decide +kernel) rfl) ?_
  refine r_p (pc' := 2283) (p_tload_n 1 (k := 0) (Nat.le_of_ble_eq_true rfl) (by decide +kernel) rfl) ?_
  refine r_p (pc' := 2285) (p_iload 5 (i := 4) (by decide +kernel) rfl) ?_
  refine r_p (pc' := 2286) (p_iconst (n := 1) (v := 1) (by decide +kernel) rfl) ?_
  refine r_p (pc' := 2287) (p_iadd (by decide +kernel)) ?_
  refine r_sldx (by decide +kernel) hx fun v431 => ?_
  refine r_p (pc' := 2289) (p_tload_n 1 (k := 0) (Nat.le_of_ble_eq_true rfl) (by decide +kernel) rfl) ?_
  refine r_p (pc' := 2291) (p_iload 5 (i := 4) (by decide +kernel) rfl) ?_
  refine r_p (pc' := 2292) (p_iconst (n := 2) (v := 2) (by decide +kernel) rfl) ?_
  refine r_p (pc' := 2293) (p_iadd (by decide +kernel)) ?_
  refine r_sldx (by decide +kernel) hx fun v432 => ?_
  refine r_callVI mvL_263 (ctX12_pairs v2 v431 v432) (rcX12_pairs v2 v431 v432) ⟨_, _, rfl⟩ (as := [vi v431, vi v432]) (st := []) rfl rfl (by decide +kernel) rfl (Nat.le_of_ble_eq_true rfl) (Nat.le_of_ble_eq_true rfl) fun v433 s => ?_
  refine r_p (pc' := 2299) (p_istore (i := 6) (lv' := [(6, vi v433), (5, vi v430), (0, vt 999), (1, vr v1), (2, vr v2), (3, vr v3), (4, vi x)]) (by decide +kernel) (Nat.le_of_ble_eq_true rfl) rfl) ?_
  refine r_p (pc' := 2300) (p_aload_n 4 (k := 2) (by decide +kernel) rfl) ?_
  refine r_callVI mvL_151 (ctX12_thrown v2) (rcX12_thrown v2) ⟨_, _, rfl⟩ (as := []) (st := []) rfl rfl (by decide +kernel) rfl (Nat.le_of_ble_eq_true rfl) (Nat.le_of_ble_eq_true rfl) fun v434 s => ?_
  refine r_p (pc' := 2305) (p_iload 1 (i := 5) (by decide +kernel) rfl) ?_
  refine r_icmpeq (off := 5) (tgt := 2310) (by decide +kernel) (by decide) (fun h435 => ?_) (fun h435 => ?_)
  · refine r_p (pc' := 2312) (p_iload 1 (i := 5) (by decide +kernel) rfl) ?_
    refine r_ifne (off := 15) (tgt := 2327) (by decide +kernel) (by decide) (fun h436 => ?_) (fun h436 => ?_)
    · refine r_p (pc' := 2316) (p_aload_n 5 (k := 3) (by decide +kernel) rfl) ?_
      refine r_p (pc' := 2317) (p_iconst (n := 0) (v := 0) (by decide +kernel) rfl) ?_
      refine r_ldL (by decide +kernel) fun v437 => ?_
      refine r_p (pc' := 2320) (p_iload 0 (i := 6) (by decide +kernel) rfl) ?_
      refine r_p (pc' := 2321) (p_i2l (by decide +kernel)) ?_
      refine r_p (pc' := 2322) (p_lcmp (by decide +kernel)) ?_
      refine r_ifeq (off := 5) (tgt := 2327) (by decide +kernel) (by decide) (fun h438 => ?_) (fun h438 => ?_)
      · refine r_p (pc' := 2977) (p_goto (off := 650) (tgt := 2977) (by decide +kernel) (by decide)) ?_
        refine r_p (pc' := 2980) (p_iinc 6 (i := 4) (n := 6) (x := x) (v := x + 6) (lv' := [(4, vi (x + 6)), (6, vi v433), (5, vi v430), (0, vt 999), (1, vr v1), (2, vr v2), (3, vr v3)]) (by decide +kernel) rfl rfl (Nat.le_of_ble_eq_true rfl) rfl) ?_
        refine r_p (pc' := 23) (p_goto (off := -2957) (tgt := 23) (by decide +kernel) (by decide)) ?_
        refine r_sub (lv' := [(0, vt 999), (1, vr v1), (2, vr v2), (3, vr v3), (4, vi (x + 6))]) [3, 4, 5, 6, 0] rfl ?_
        exact hb (x + 6) _
      · refine r_p (pc' := 2326) (p_iconst (n := 0) (v := 0) (by decide +kernel) rfl) ?_
        exact r_iret hk rfl _ rfl rfl (by decide +kernel)
    · refine r_p (pc' := 2977) (p_goto (off := 650) (tgt := 2977) (by decide +kernel) (by decide)) ?_
      refine r_p (pc' := 2980) (p_iinc 6 (i := 4) (n := 6) (x := x) (v := x + 6) (lv' := [(4, vi (x + 6)), (6, vi v433), (5, vi v430), (0, vt 999), (1, vr v1), (2, vr v2), (3, vr v3)]) (by decide +kernel) rfl rfl (Nat.le_of_ble_eq_true rfl) rfl) ?_
      refine r_p (pc' := 23) (p_goto (off := -2957) (tgt := 23) (by decide +kernel) (by decide)) ?_
      refine r_sub (lv' := [(0, vt 999), (1, vr v1), (2, vr v2), (3, vr v3), (4, vi (x + 6))]) [3, 4, 5, 6, 0] rfl ?_
      exact hb (x + 6) _
  · refine r_p (pc' := 2309) (p_iconst (n := 0) (v := 0) (by decide +kernel) rfl) ?_
    exact r_iret hk rfl _ rfl rfl (by decide +kernel)
set_option maxHeartbeats 4000000 in
set_option maxRecDepth 100000 in
theorem rmL_main_c35 (n0 : Nat) (xs : Nat → Int32) (v1 : Nat) (v2 : Nat) (v3 : Nat) (x : Int32) (v6 : Int32) (Y : DyA) (hx : wX (yW Y) = xs ∧ wL (yW Y) = n0) (K : Int32 ⊕ (Unit ⊕ Unit) → MM Int32) (hb : ∀ (x : Int32) (s : aS), Rr aL_main Y 23 [(0, vt 999), (1, vr v1), (2, vr v2), (3, vr v3), (4, vi x)] [] (mret (.inl x) : MM (Int32 ⊕ (Unit ⊕ Unit))) K rI s) (hk : K (.inr (.inr ())) = mret 0) (hk1 : K (.inr (.inl ())) = mret 1) (s : aS) : Rr aL_main Y 2330 [(0, vt 999), (1, vr v1), (2, vr v2), (3, vr v3), (4, vi x)] [] (mL_main_c35 n0 xs v1 v2 v3 x) K rI s := by
  unfold mL_main_c35
  refine r_p (pc' := 2331) (p_aload_n 1 (k := 1) (by decide +kernel) rfl) ?_
  refine r_p (pc' := 2332) (p_tload_n 0 (k := 0) (Nat.le_of_ble_eq_true rfl) (by decide +kernel) rfl) ?_
  refine r_p (pc' := 2334) (p_iload 4 (i := 4) (by decide +kernel) rfl) ?_
  refine r_p (pc' := 2335) (p_iconst (n := 1) (v := 1) (by decide +kernel) rfl) ?_
  refine r_p (pc' := 2336) (p_iadd (by decide +kernel)) ?_
  refine r_sldx (by decide +kernel) hx fun v440 => ?_
  refine r_p (pc' := 2338) (p_aload_n 3 (k := 3) (by decide +kernel) rfl) ?_
  refine r_callSH msL_264 (ctL_trial v1 v440 v3) (as := [vr v1, vi v440, vr v3]) (st := []) rfl rfl (by decide +kernel) rfl (Nat.le_of_ble_eq_true rfl) (Nat.le_of_ble_eq_true rfl) fun v441 s => ?_
  refine r_p (pc' := 2343) (p_istore (i := 5) (lv' := [(5, vi v441), (0, vt 999), (1, vr v1), (2, vr v2), (3, vr v3), (4, vi x)]) (by decide +kernel) (Nat.le_of_ble_eq_true rfl) rfl) ?_
  refine r_p (pc' := 2344) (p_aload_n 3 (k := 2) (by decide +kernel) rfl) ?_
  refine r_p (pc' := 2345) (p_tload_n 1 (k := 0) (Nat.le_of_ble_eq_true rfl) (by decide +kernel) rfl) ?_
  refine r_p (pc' := 2347) (p_iload 5 (i := 4) (by decide +kernel) rfl) ?_
  refine r_p (pc' := 2348) (p_iconst (n := 1) (v := 1) (by decide +kernel) rfl) ?_
  refine r_p (pc' := 2349) (p_iadd (by decide +kernel)) ?_
  refine r_sldx (by decide +kernel) hx fun v442 => ?_
  refine r_callVI mvL_266 (ctX12_trial v2 v442) (rcX12_trial v2 v442) ⟨_, _, rfl⟩ (as := [vi v442]) (st := []) rfl rfl (by decide +kernel) rfl (Nat.le_of_ble_eq_true rfl) (Nat.le_of_ble_eq_true rfl) fun v443 s => ?_
  refine r_p (pc' := 2355) (p_istore (i := 6) (lv' := [(6, vi v443), (5, vi v441), (0, vt 999), (1, vr v1), (2, vr v2), (3, vr v3), (4, vi x)]) (by decide +kernel) (Nat.le_of_ble_eq_true rfl) rfl) ?_
  refine r_p (pc' := 2356) (p_aload_n 4 (k := 2) (by decide +kernel) rfl) ?_
  refine r_callVI mvL_151 (ctX12_thrown v2) (rcX12_thrown v2) ⟨_, _, rfl⟩ (as := []) (st := []) rfl rfl (by decide +kernel) rfl (Nat.le_of_ble_eq_true rfl) (Nat.le_of_ble_eq_true rfl) fun v444 s => ?_
  refine r_p (pc' := 2361) (p_iload 1 (i := 5) (by decide +kernel) rfl) ?_
  refine r_icmpeq (off := 5) (tgt := 2366) (by decide +kernel) (by decide) (fun h445 => ?_) (fun h445 => ?_)
  · refine r_p (pc' := 2368) (p_iload 1 (i := 5) (by decide +kernel) rfl) ?_
    refine r_ifne (off := 15) (tgt := 2383) (by decide +kernel) (by decide) (fun h446 => ?_) (fun h446 => ?_)
    · refine r_p (pc' := 2372) (p_aload_n 5 (k := 3) (by decide +kernel) rfl) ?_
      refine r_p (pc' := 2373) (p_iconst (n := 0) (v := 0) (by decide +kernel) rfl) ?_
      refine r_ldL (by decide +kernel) fun v447 => ?_
      refine r_p (pc' := 2376) (p_iload 0 (i := 6) (by decide +kernel) rfl) ?_
      refine r_p (pc' := 2377) (p_i2l (by decide +kernel)) ?_
      refine r_p (pc' := 2378) (p_lcmp (by decide +kernel)) ?_
      refine r_ifeq (off := 5) (tgt := 2383) (by decide +kernel) (by decide) (fun h448 => ?_) (fun h448 => ?_)
      · refine r_p (pc' := 2977) (p_goto (off := 594) (tgt := 2977) (by decide +kernel) (by decide)) ?_
        refine r_p (pc' := 2980) (p_iinc 6 (i := 4) (n := 6) (x := x) (v := x + 6) (lv' := [(4, vi (x + 6)), (6, vi v443), (5, vi v441), (0, vt 999), (1, vr v1), (2, vr v2), (3, vr v3)]) (by decide +kernel) rfl rfl (Nat.le_of_ble_eq_true rfl) rfl) ?_
        refine r_p (pc' := 23) (p_goto (off := -2957) (tgt := 23) (by decide +kernel) (by decide)) ?_
        refine r_sub (lv' := [(0, vt 999), (1, vr v1), (2, vr v2), (3, vr v3), (4, vi (x + 6))]) [3, 4, 5, 6, 0] rfl ?_
        exact hb (x + 6) _
      · refine r_p (pc' := 2382) (p_iconst (n := 0) (v := 0) (by decide +kernel) rfl) ?_
        exact r_iret hk rfl _ rfl rfl (by decide +kernel)
    · refine r_p (pc' := 2977) (p_goto (off := 594) (tgt := 2977) (by decide +kernel) (by decide)) ?_
      refine r_p (pc' := 2980) (p_iinc 6 (i := 4) (n := 6) (x := x) (v := x + 6) (lv' := [(4, vi (x + 6)), (6, vi v443), (5, vi v441), (0, vt 999), (1, vr v1), (2, vr v2), (3, vr v3)]) (by decide +kernel) rfl rfl (Nat.le_of_ble_eq_true rfl) rfl) ?_
      refine r_p (pc' := 23) (p_goto (off := -2957) (tgt := 23) (by decide +kernel) (by decide)) ?_
      refine r_sub (lv' := [(0, vt 999), (1, vr v1), (2, vr v2), (3, vr v3), (4, vi (x + 6))]) [3, 4, 5, 6, 0] rfl ?_
      exact hb (x + 6) _
  · refine r_p (pc' := 2365) (p_iconst (n := 0) (v := 0) (by decide +kernel) rfl) ?_
    exact r_iret hk rfl _ rfl rfl (by decide +kernel)
set_option maxHeartbeats 4000000 in
set_option maxRecDepth 100000 in
theorem rmL_main_c36 (n0 : Nat) (xs : Nat → Int32) (v1 : Nat) (v2 : Nat) (v3 : Nat) (x : Int32) (v6 : Int32) (Y : DyA) (hx : wX (yW Y) = xs ∧ wL (yW Y) = n0) (K : Int32 ⊕ (Unit ⊕ Unit) → MM Int32) (hb : ∀ (x : Int32) (s : aS), Rr aL_main Y 23 [(0, vt 999), (1, vr v1), (2, vr v2), (3, vr v3), (4, vi x)] [] (mret (.inl x) : MM (Int32 ⊕ (Unit ⊕ Unit))) K rI s) (hk : K (.inr (.inr ())) = mret 0) (hk1 : K (.inr (.inl ())) = mret 1) (s : aS) : Rr aL_main Y 2386 [(0, vt 999), (1, vr v1), (2, vr v2), (3, vr v3), (4, vi x)] [] (mL_main_c36 n0 xs v1 v2 v3 x) K rI s := by
  unfold mL_main_c36
  refine r_p (pc' := 2387) (p_aload_n 1 (k := 1) (by decide +kernel) rfl) ?_
  refine r_p (pc' := 2388) (p_tload_n 0 (k := 0) (Nat.le_of_ble_eq_true rfl) (by decide +kernel) rfl) ?_
  refine r_p (pc' := 2390) (p_iload 4 (i := 4) (by decide +kernel) rfl) ?_
  refine r_p (pc' := 2391) (p_iconst (n := 1) (v := 1) (by decide +kernel) rfl) ?_
  refine r_p (pc' := 2392) (p_iadd (by decide +kernel)) ?_
  refine r_sldx (by decide +kernel) hx fun v450 => ?_
  refine r_p (pc' := 2394) (p_tload_n 0 (k := 0) (Nat.le_of_ble_eq_true rfl) (by decide +kernel) rfl) ?_
  refine r_p (pc' := 2396) (p_iload 4 (i := 4) (by decide +kernel) rfl) ?_
  refine r_p (pc' := 2397) (p_iconst (n := 2) (v := 2) (by decide +kernel) rfl) ?_
  refine r_p (pc' := 2398) (p_iadd (by decide +kernel)) ?_
  refine r_sldx (by decide +kernel) hx fun v451 => ?_
  refine r_join 2407 (fun (x453 : Int32) => [(0, vt 999), (1, vr v1), (2, vr v2), (3, vr v3), (4, vi x)]) (fun (x453 : Int32) => [vi x453, vi v450, vr v1]) (fun x453 s => ?_) (fun K454 hj455 => ?_)
  · refine r_p (pc' := 2408) (p_aload_n 3 (k := 3) (by decide +kernel) rfl) ?_
    refine r_callSH msL_267 (ctL_span v1 v450 x453 v3) (as := [vr v1, vi v450, vi x453, vr v3]) (st := []) rfl rfl (by decide +kernel) rfl (Nat.le_of_ble_eq_true rfl) (Nat.le_of_ble_eq_true rfl) fun v456 s => ?_
    refine r_p (pc' := 2413) (p_istore (i := 5) (lv' := [(5, vi v456), (0, vt 999), (1, vr v1), (2, vr v2), (3, vr v3), (4, vi x)]) (by decide +kernel) (Nat.le_of_ble_eq_true rfl) rfl) ?_
    refine r_p (pc' := 2414) (p_aload_n 3 (k := 2) (by decide +kernel) rfl) ?_
    refine r_p (pc' := 2415) (p_tload_n 1 (k := 0) (Nat.le_of_ble_eq_true rfl) (by decide +kernel) rfl) ?_
    refine r_p (pc' := 2417) (p_iload 5 (i := 4) (by decide +kernel) rfl) ?_
    refine r_p (pc' := 2418) (p_iconst (n := 1) (v := 1) (by decide +kernel) rfl) ?_
    refine r_p (pc' := 2419) (p_iadd (by decide +kernel)) ?_
    refine r_sldx (by decide +kernel) hx fun v457 => ?_
    refine r_p (pc' := 2421) (p_tload_n 1 (k := 0) (Nat.le_of_ble_eq_true rfl) (by decide +kernel) rfl) ?_
    refine r_p (pc' := 2423) (p_iload 5 (i := 4) (by decide +kernel) rfl) ?_
    refine r_p (pc' := 2424) (p_iconst (n := 2) (v := 2) (by decide +kernel) rfl) ?_
    refine r_p (pc' := 2425) (p_iadd (by decide +kernel)) ?_
    refine r_sldx (by decide +kernel) hx fun v458 => ?_
    refine r_join 2434 (fun (x460 : Int32) => [(0, vt 999), (1, vr v1), (2, vr v2), (3, vr v3), (4, vi x), (5, vi v456)]) (fun (x460 : Int32) => [vi x460, vi v457, vr v2]) (fun x460 s => ?_) (fun K461 hj462 => ?_)
    · refine r_callVI mvL_269 (ctX12_span v2 v457 x460) (rcX12_span v2 v457 x460) ⟨_, _, rfl⟩ (as := [vi v457, vi x460]) (st := []) rfl rfl (by decide +kernel) rfl (Nat.le_of_ble_eq_true rfl) (Nat.le_of_ble_eq_true rfl) fun v463 s => ?_
      refine r_p (pc' := 2439) (p_istore (i := 6) (lv' := [(6, vi v463), (0, vt 999), (1, vr v1), (2, vr v2), (3, vr v3), (4, vi x), (5, vi v456)]) (by decide +kernel) (Nat.le_of_ble_eq_true rfl) rfl) ?_
      refine r_p (pc' := 2440) (p_aload_n 3 (k := 2) (by decide +kernel) rfl) ?_
      refine r_callVI mvL_151 (ctX12_thrown v2) (rcX12_thrown v2) ⟨_, _, rfl⟩ (as := []) (st := []) rfl rfl (by decide +kernel) rfl (Nat.le_of_ble_eq_true rfl) (Nat.le_of_ble_eq_true rfl) fun v464 s => ?_
      refine r_p (pc' := 2445) (p_iload 6 (i := 5) (by decide +kernel) rfl) ?_
      refine r_icmpeq (off := 5) (tgt := 2450) (by decide +kernel) (by decide) (fun h465 => ?_) (fun h465 => ?_)
      · refine r_p (pc' := 2452) (p_iload 6 (i := 5) (by decide +kernel) rfl) ?_
        refine r_ifne (off := 15) (tgt := 2467) (by decide +kernel) (by decide) (fun h466 => ?_) (fun h466 => ?_)
        · refine r_p (pc' := 2456) (p_aload_n 4 (k := 3) (by decide +kernel) rfl) ?_
          refine r_p (pc' := 2457) (p_iconst (n := 0) (v := 0) (by decide +kernel) rfl) ?_
          refine r_ldL (by decide +kernel) fun v467 => ?_
          refine r_p (pc' := 2460) (p_iload 0 (i := 6) (by decide +kernel) rfl) ?_
          refine r_p (pc' := 2461) (p_i2l (by decide +kernel)) ?_
          refine r_p (pc' := 2462) (p_lcmp (by decide +kernel)) ?_
          refine r_ifeq (off := 5) (tgt := 2467) (by decide +kernel) (by decide) (fun h468 => ?_) (fun h468 => ?_)
          · refine r_p (pc' := 2977) (p_goto (off := 510) (tgt := 2977) (by decide +kernel) (by decide)) ?_
            refine r_p (pc' := 2980) (p_iinc 5 (i := 4) (n := 6) (x := x) (v := x + 6) (lv' := [(4, vi (x + 6)), (6, vi v463), (0, vt 999), (1, vr v1), (2, vr v2), (3, vr v3), (5, vi v456)]) (by decide +kernel) rfl rfl (Nat.le_of_ble_eq_true rfl) rfl) ?_
            refine r_p (pc' := 23) (p_goto (off := -2957) (tgt := 23) (by decide +kernel) (by decide)) ?_
            refine r_sub (lv' := [(0, vt 999), (1, vr v1), (2, vr v2), (3, vr v3), (4, vi (x + 6))]) [2, 3, 4, 5, 0] rfl ?_
            exact hb (x + 6) _
          · refine r_p (pc' := 2466) (p_iconst (n := 0) (v := 0) (by decide +kernel) rfl) ?_
            exact r_iret hk rfl _ rfl rfl (by decide +kernel)
        · refine r_p (pc' := 2977) (p_goto (off := 510) (tgt := 2977) (by decide +kernel) (by decide)) ?_
          refine r_p (pc' := 2980) (p_iinc 5 (i := 4) (n := 6) (x := x) (v := x + 6) (lv' := [(4, vi (x + 6)), (6, vi v463), (0, vt 999), (1, vr v1), (2, vr v2), (3, vr v3), (5, vi v456)]) (by decide +kernel) rfl rfl (Nat.le_of_ble_eq_true rfl) rfl) ?_
          refine r_p (pc' := 23) (p_goto (off := -2957) (tgt := 23) (by decide +kernel) (by decide)) ?_
          refine r_sub (lv' := [(0, vt 999), (1, vr v1), (2, vr v2), (3, vr v3), (4, vi (x + 6))]) [2, 3, 4, 5, 0] rfl ?_
          exact hb (x + 6) _
      · refine r_p (pc' := 2449) (p_iconst (n := 0) (v := 0) (by decide +kernel) rfl) ?_
        exact r_iret hk rfl _ rfl rfl (by decide +kernel)
    · refine r_ifeq (off := 7) (tgt := 2433) (by decide +kernel) (by decide) (fun h459 => ?_) (fun h459 => ?_)
      · refine r_p (pc' := 2434) (p_iconst (n := 0) (v := 0) (by decide +kernel) rfl) ?_
        refine r_sub (lv' := [(0, vt 999), (1, vr v1), (2, vr v2), (3, vr v3), (4, vi x), (5, vi v456)]) [1, 2, 3, 4, 5, 0] rfl ?_
        exact hj462 0 _
      · refine r_p (pc' := 2430) (p_iconst (n := 1) (v := 1) (by decide +kernel) rfl) ?_
        refine r_p (pc' := 2434) (p_goto (off := 4) (tgt := 2434) (by decide +kernel) (by decide)) ?_
        refine r_sub (lv' := [(0, vt 999), (1, vr v1), (2, vr v2), (3, vr v3), (4, vi x), (5, vi v456)]) [1, 2, 3, 4, 5, 0] rfl ?_
        exact hj462 1 _
  · refine r_ifeq (off := 7) (tgt := 2406) (by decide +kernel) (by decide) (fun h452 => ?_) (fun h452 => ?_)
    · refine r_p (pc' := 2407) (p_iconst (n := 0) (v := 0) (by decide +kernel) rfl) ?_
      exact hj455 0 _
    · refine r_p (pc' := 2403) (p_iconst (n := 1) (v := 1) (by decide +kernel) rfl) ?_
      refine r_p (pc' := 2407) (p_goto (off := 4) (tgt := 2407) (by decide +kernel) (by decide)) ?_
      exact hj455 1 _
set_option maxHeartbeats 4000000 in
set_option maxRecDepth 100000 in
theorem rmL_main_c37 (n0 : Nat) (xs : Nat → Int32) (v1 : Nat) (v2 : Nat) (v3 : Nat) (x : Int32) (v6 : Int32) (Y : DyA) (hx : wX (yW Y) = xs ∧ wL (yW Y) = n0) (K : Int32 ⊕ (Unit ⊕ Unit) → MM Int32) (hb : ∀ (x : Int32) (s : aS), Rr aL_main Y 23 [(0, vt 999), (1, vr v1), (2, vr v2), (3, vr v3), (4, vi x)] [] (mret (.inl x) : MM (Int32 ⊕ (Unit ⊕ Unit))) K rI s) (hk : K (.inr (.inr ())) = mret 0) (hk1 : K (.inr (.inl ())) = mret 1) (s : aS) : Rr aL_main Y 2470 [(0, vt 999), (1, vr v1), (2, vr v2), (3, vr v3), (4, vi x)] [] (mL_main_c37 n0 xs v1 v2 v3 x) K rI s := by
  unfold mL_main_c37
  refine r_p (pc' := 2471) (p_aload_n 1 (k := 1) (by decide +kernel) rfl) ?_
  refine r_p (pc' := 2472) (p_tload_n 0 (k := 0) (Nat.le_of_ble_eq_true rfl) (by decide +kernel) rfl) ?_
  refine r_p (pc' := 2474) (p_iload 4 (i := 4) (by decide +kernel) rfl) ?_
  refine r_p (pc' := 2475) (p_iconst (n := 1) (v := 1) (by decide +kernel) rfl) ?_
  refine r_p (pc' := 2476) (p_iadd (by decide +kernel)) ?_
  refine r_sldx (by decide +kernel) hx fun v470 => ?_
  refine r_p (pc' := 2478) (p_tload_n 0 (k := 0) (Nat.le_of_ble_eq_true rfl) (by decide +kernel) rfl) ?_
  refine r_p (pc' := 2480) (p_iload 4 (i := 4) (by decide +kernel) rfl) ?_
  refine r_p (pc' := 2481) (p_iconst (n := 2) (v := 2) (by decide +kernel) rfl) ?_
  refine r_p (pc' := 2482) (p_iadd (by decide +kernel)) ?_
  refine r_sldx (by decide +kernel) hx fun v471 => ?_
  refine r_p (pc' := 2484) (p_tload_n 0 (k := 0) (Nat.le_of_ble_eq_true rfl) (by decide +kernel) rfl) ?_
  refine r_p (pc' := 2486) (p_iload 4 (i := 4) (by decide +kernel) rfl) ?_
  refine r_p (pc' := 2487) (p_iconst (n := 3) (v := 3) (by decide +kernel) rfl) ?_
  refine r_p (pc' := 2488) (p_iadd (by decide +kernel)) ?_
  refine r_sldx (by decide +kernel) hx fun v472 => ?_
  refine r_p (pc' := 2490) (p_tload_n 0 (k := 0) (Nat.le_of_ble_eq_true rfl) (by decide +kernel) rfl) ?_
  refine r_p (pc' := 2492) (p_iload 4 (i := 4) (by decide +kernel) rfl) ?_
  refine r_p (pc' := 2493) (p_iconst (n := 4) (v := 4) (by decide +kernel) rfl) ?_
  refine r_p (pc' := 2494) (p_iadd (by decide +kernel)) ?_
  refine r_sldx (by decide +kernel) hx fun v473 => ?_
  refine r_p (pc' := 2496) (p_aload_n 3 (k := 3) (by decide +kernel) rfl) ?_
  refine r_callSH msL_270 (ctL_after v1 v470 v471 v472 v473 v3) (as := [vr v1, vi v470, vi v471, vi v472, vi v473, vr v3]) (st := []) rfl rfl (by decide +kernel) rfl (Nat.le_of_ble_eq_true rfl) (Nat.le_of_ble_eq_true rfl) fun v474 s => ?_
  refine r_p (pc' := 2501) (p_istore (i := 5) (lv' := [(5, vi v474), (0, vt 999), (1, vr v1), (2, vr v2), (3, vr v3), (4, vi x)]) (by decide +kernel) (Nat.le_of_ble_eq_true rfl) rfl) ?_
  refine r_p (pc' := 2502) (p_aload_n 3 (k := 2) (by decide +kernel) rfl) ?_
  refine r_p (pc' := 2503) (p_tload_n 1 (k := 0) (Nat.le_of_ble_eq_true rfl) (by decide +kernel) rfl) ?_
  refine r_p (pc' := 2505) (p_iload 5 (i := 4) (by decide +kernel) rfl) ?_
  refine r_p (pc' := 2506) (p_iconst (n := 1) (v := 1) (by decide +kernel) rfl) ?_
  refine r_p (pc' := 2507) (p_iadd (by decide +kernel)) ?_
  refine r_sldx (by decide +kernel) hx fun v475 => ?_
  refine r_p (pc' := 2509) (p_tload_n 1 (k := 0) (Nat.le_of_ble_eq_true rfl) (by decide +kernel) rfl) ?_
  refine r_p (pc' := 2511) (p_iload 5 (i := 4) (by decide +kernel) rfl) ?_
  refine r_p (pc' := 2512) (p_iconst (n := 2) (v := 2) (by decide +kernel) rfl) ?_
  refine r_p (pc' := 2513) (p_iadd (by decide +kernel)) ?_
  refine r_sldx (by decide +kernel) hx fun v476 => ?_
  refine r_p (pc' := 2515) (p_tload_n 1 (k := 0) (Nat.le_of_ble_eq_true rfl) (by decide +kernel) rfl) ?_
  refine r_p (pc' := 2517) (p_iload 5 (i := 4) (by decide +kernel) rfl) ?_
  refine r_p (pc' := 2518) (p_iconst (n := 3) (v := 3) (by decide +kernel) rfl) ?_
  refine r_p (pc' := 2519) (p_iadd (by decide +kernel)) ?_
  refine r_sldx (by decide +kernel) hx fun v477 => ?_
  refine r_p (pc' := 2521) (p_tload_n 1 (k := 0) (Nat.le_of_ble_eq_true rfl) (by decide +kernel) rfl) ?_
  refine r_p (pc' := 2523) (p_iload 5 (i := 4) (by decide +kernel) rfl) ?_
  refine r_p (pc' := 2524) (p_iconst (n := 4) (v := 4) (by decide +kernel) rfl) ?_
  refine r_p (pc' := 2525) (p_iadd (by decide +kernel)) ?_
  refine r_sldx (by decide +kernel) hx fun v478 => ?_
  refine r_callVI mvL_272 (ctX12_after_ v2 v475 v476 v477 v478) (rcX12_after_ v2 v475 v476 v477 v478) ⟨_, _, rfl⟩ (as := [vi v475, vi v476, vi v477, vi v478]) (st := []) rfl rfl (by decide +kernel) rfl (Nat.le_of_ble_eq_true rfl) (Nat.le_of_ble_eq_true rfl) fun v479 s => ?_
  refine r_p (pc' := 2531) (p_istore (i := 6) (lv' := [(6, vi v479), (5, vi v474), (0, vt 999), (1, vr v1), (2, vr v2), (3, vr v3), (4, vi x)]) (by decide +kernel) (Nat.le_of_ble_eq_true rfl) rfl) ?_
  refine r_p (pc' := 2532) (p_aload_n 4 (k := 2) (by decide +kernel) rfl) ?_
  refine r_callVI mvL_151 (ctX12_thrown v2) (rcX12_thrown v2) ⟨_, _, rfl⟩ (as := []) (st := []) rfl rfl (by decide +kernel) rfl (Nat.le_of_ble_eq_true rfl) (Nat.le_of_ble_eq_true rfl) fun v480 s => ?_
  refine r_p (pc' := 2537) (p_iload 1 (i := 5) (by decide +kernel) rfl) ?_
  refine r_icmpeq (off := 5) (tgt := 2542) (by decide +kernel) (by decide) (fun h481 => ?_) (fun h481 => ?_)
  · refine r_p (pc' := 2544) (p_iload 1 (i := 5) (by decide +kernel) rfl) ?_
    refine r_ifne (off := 15) (tgt := 2559) (by decide +kernel) (by decide) (fun h482 => ?_) (fun h482 => ?_)
    · refine r_p (pc' := 2548) (p_aload_n 5 (k := 3) (by decide +kernel) rfl) ?_
      refine r_p (pc' := 2549) (p_iconst (n := 0) (v := 0) (by decide +kernel) rfl) ?_
      refine r_ldL (by decide +kernel) fun v483 => ?_
      refine r_p (pc' := 2552) (p_iload 0 (i := 6) (by decide +kernel) rfl) ?_
      refine r_p (pc' := 2553) (p_i2l (by decide +kernel)) ?_
      refine r_p (pc' := 2554) (p_lcmp (by decide +kernel)) ?_
      refine r_ifeq (off := 5) (tgt := 2559) (by decide +kernel) (by decide) (fun h484 => ?_) (fun h484 => ?_)
      · refine r_p (pc' := 2977) (p_goto (off := 418) (tgt := 2977) (by decide +kernel) (by decide)) ?_
        refine r_p (pc' := 2980) (p_iinc 6 (i := 4) (n := 6) (x := x) (v := x + 6) (lv' := [(4, vi (x + 6)), (6, vi v479), (5, vi v474), (0, vt 999), (1, vr v1), (2, vr v2), (3, vr v3)]) (by decide +kernel) rfl rfl (Nat.le_of_ble_eq_true rfl) rfl) ?_
        refine r_p (pc' := 23) (p_goto (off := -2957) (tgt := 23) (by decide +kernel) (by decide)) ?_
        refine r_sub (lv' := [(0, vt 999), (1, vr v1), (2, vr v2), (3, vr v3), (4, vi (x + 6))]) [3, 4, 5, 6, 0] rfl ?_
        exact hb (x + 6) _
      · refine r_p (pc' := 2558) (p_iconst (n := 0) (v := 0) (by decide +kernel) rfl) ?_
        exact r_iret hk rfl _ rfl rfl (by decide +kernel)
    · refine r_p (pc' := 2977) (p_goto (off := 418) (tgt := 2977) (by decide +kernel) (by decide)) ?_
      refine r_p (pc' := 2980) (p_iinc 6 (i := 4) (n := 6) (x := x) (v := x + 6) (lv' := [(4, vi (x + 6)), (6, vi v479), (5, vi v474), (0, vt 999), (1, vr v1), (2, vr v2), (3, vr v3)]) (by decide +kernel) rfl rfl (Nat.le_of_ble_eq_true rfl) rfl) ?_
      refine r_p (pc' := 23) (p_goto (off := -2957) (tgt := 23) (by decide +kernel) (by decide)) ?_
      refine r_sub (lv' := [(0, vt 999), (1, vr v1), (2, vr v2), (3, vr v3), (4, vi (x + 6))]) [3, 4, 5, 6, 0] rfl ?_
      exact hb (x + 6) _
  · refine r_p (pc' := 2541) (p_iconst (n := 0) (v := 0) (by decide +kernel) rfl) ?_
    exact r_iret hk rfl _ rfl rfl (by decide +kernel)
set_option maxHeartbeats 4000000 in
set_option maxRecDepth 100000 in
theorem rmL_main_c38 (n0 : Nat) (xs : Nat → Int32) (v1 : Nat) (v2 : Nat) (v3 : Nat) (x : Int32) (v6 : Int32) (Y : DyA) (hx : wX (yW Y) = xs ∧ wL (yW Y) = n0) (K : Int32 ⊕ (Unit ⊕ Unit) → MM Int32) (hb : ∀ (x : Int32) (s : aS), Rr aL_main Y 23 [(0, vt 999), (1, vr v1), (2, vr v2), (3, vr v3), (4, vi x)] [] (mret (.inl x) : MM (Int32 ⊕ (Unit ⊕ Unit))) K rI s) (hk : K (.inr (.inr ())) = mret 0) (hk1 : K (.inr (.inl ())) = mret 1) (s : aS) : Rr aL_main Y 2562 [(0, vt 999), (1, vr v1), (2, vr v2), (3, vr v3), (4, vi x)] [] (mL_main_c38 n0 xs v1 v2 v3 x) K rI s := by
  unfold mL_main_c38
  refine r_p (pc' := 2563) (p_aload_n 1 (k := 1) (by decide +kernel) rfl) ?_
  refine r_p (pc' := 2564) (p_tload_n 0 (k := 0) (Nat.le_of_ble_eq_true rfl) (by decide +kernel) rfl) ?_
  refine r_p (pc' := 2566) (p_iload 4 (i := 4) (by decide +kernel) rfl) ?_
  refine r_p (pc' := 2567) (p_iconst (n := 1) (v := 1) (by decide +kernel) rfl) ?_
  refine r_p (pc' := 2568) (p_iadd (by decide +kernel)) ?_
  refine r_sldx (by decide +kernel) hx fun v486 => ?_
  refine r_p (pc' := 2570) (p_tload_n 0 (k := 0) (Nat.le_of_ble_eq_true rfl) (by decide +kernel) rfl) ?_
  refine r_p (pc' := 2572) (p_iload 4 (i := 4) (by decide +kernel) rfl) ?_
  refine r_p (pc' := 2573) (p_iconst (n := 2) (v := 2) (by decide +kernel) rfl) ?_
  refine r_p (pc' := 2574) (p_iadd (by decide +kernel)) ?_
  refine r_sldx (by decide +kernel) hx fun v487 => ?_
  refine r_p (pc' := 2576) (p_tload_n 0 (k := 0) (Nat.le_of_ble_eq_true rfl) (by decide +kernel) rfl) ?_
  refine r_p (pc' := 2578) (p_iload 4 (i := 4) (by decide +kernel) rfl) ?_
  refine r_p (pc' := 2579) (p_iconst (n := 3) (v := 3) (by decide +kernel) rfl) ?_
  refine r_p (pc' := 2580) (p_iadd (by decide +kernel)) ?_
  refine r_sldx (by decide +kernel) hx fun v488 => ?_
  refine r_p (pc' := 2582) (p_aload_n 3 (k := 3) (by decide +kernel) rfl) ?_
  refine r_callSH msL_273 (ctL_worst v1 v486 v487 v488 v3) (as := [vr v1, vi v486, vi v487, vi v488, vr v3]) (st := []) rfl rfl (by decide +kernel) rfl (Nat.le_of_ble_eq_true rfl) (Nat.le_of_ble_eq_true rfl) fun v489 s => ?_
  refine r_p (pc' := 2587) (p_istore (i := 5) (lv' := [(5, vi v489), (0, vt 999), (1, vr v1), (2, vr v2), (3, vr v3), (4, vi x)]) (by decide +kernel) (Nat.le_of_ble_eq_true rfl) rfl) ?_
  refine r_p (pc' := 2588) (p_aload_n 3 (k := 2) (by decide +kernel) rfl) ?_
  refine r_p (pc' := 2589) (p_tload_n 1 (k := 0) (Nat.le_of_ble_eq_true rfl) (by decide +kernel) rfl) ?_
  refine r_p (pc' := 2591) (p_iload 5 (i := 4) (by decide +kernel) rfl) ?_
  refine r_p (pc' := 2592) (p_iconst (n := 1) (v := 1) (by decide +kernel) rfl) ?_
  refine r_p (pc' := 2593) (p_iadd (by decide +kernel)) ?_
  refine r_sldx (by decide +kernel) hx fun v490 => ?_
  refine r_p (pc' := 2595) (p_tload_n 1 (k := 0) (Nat.le_of_ble_eq_true rfl) (by decide +kernel) rfl) ?_
  refine r_p (pc' := 2597) (p_iload 5 (i := 4) (by decide +kernel) rfl) ?_
  refine r_p (pc' := 2598) (p_iconst (n := 2) (v := 2) (by decide +kernel) rfl) ?_
  refine r_p (pc' := 2599) (p_iadd (by decide +kernel)) ?_
  refine r_sldx (by decide +kernel) hx fun v491 => ?_
  refine r_p (pc' := 2601) (p_tload_n 1 (k := 0) (Nat.le_of_ble_eq_true rfl) (by decide +kernel) rfl) ?_
  refine r_p (pc' := 2603) (p_iload 5 (i := 4) (by decide +kernel) rfl) ?_
  refine r_p (pc' := 2604) (p_iconst (n := 3) (v := 3) (by decide +kernel) rfl) ?_
  refine r_p (pc' := 2605) (p_iadd (by decide +kernel)) ?_
  refine r_sldx (by decide +kernel) hx fun v492 => ?_
  refine r_callVI mvL_275 (ctX12_worst v2 v490 v491 v492) (rcX12_worst v2 v490 v491 v492) ⟨_, _, rfl⟩ (as := [vi v490, vi v491, vi v492]) (st := []) rfl rfl (by decide +kernel) rfl (Nat.le_of_ble_eq_true rfl) (Nat.le_of_ble_eq_true rfl) fun v493 s => ?_
  refine r_p (pc' := 2611) (p_istore (i := 6) (lv' := [(6, vi v493), (5, vi v489), (0, vt 999), (1, vr v1), (2, vr v2), (3, vr v3), (4, vi x)]) (by decide +kernel) (Nat.le_of_ble_eq_true rfl) rfl) ?_
  refine r_p (pc' := 2612) (p_aload_n 4 (k := 2) (by decide +kernel) rfl) ?_
  refine r_callVI mvL_151 (ctX12_thrown v2) (rcX12_thrown v2) ⟨_, _, rfl⟩ (as := []) (st := []) rfl rfl (by decide +kernel) rfl (Nat.le_of_ble_eq_true rfl) (Nat.le_of_ble_eq_true rfl) fun v494 s => ?_
  refine r_p (pc' := 2617) (p_iload 1 (i := 5) (by decide +kernel) rfl) ?_
  refine r_icmpeq (off := 5) (tgt := 2622) (by decide +kernel) (by decide) (fun h495 => ?_) (fun h495 => ?_)
  · refine r_p (pc' := 2624) (p_iload 1 (i := 5) (by decide +kernel) rfl) ?_
    refine r_ifne (off := 15) (tgt := 2639) (by decide +kernel) (by decide) (fun h496 => ?_) (fun h496 => ?_)
    · refine r_p (pc' := 2628) (p_aload_n 5 (k := 3) (by decide +kernel) rfl) ?_
      refine r_p (pc' := 2629) (p_iconst (n := 0) (v := 0) (by decide +kernel) rfl) ?_
      refine r_ldL (by decide +kernel) fun v497 => ?_
      refine r_p (pc' := 2632) (p_iload 0 (i := 6) (by decide +kernel) rfl) ?_
      refine r_p (pc' := 2633) (p_i2l (by decide +kernel)) ?_
      refine r_p (pc' := 2634) (p_lcmp (by decide +kernel)) ?_
      refine r_ifeq (off := 5) (tgt := 2639) (by decide +kernel) (by decide) (fun h498 => ?_) (fun h498 => ?_)
      · refine r_p (pc' := 2977) (p_goto (off := 338) (tgt := 2977) (by decide +kernel) (by decide)) ?_
        refine r_p (pc' := 2980) (p_iinc 6 (i := 4) (n := 6) (x := x) (v := x + 6) (lv' := [(4, vi (x + 6)), (6, vi v493), (5, vi v489), (0, vt 999), (1, vr v1), (2, vr v2), (3, vr v3)]) (by decide +kernel) rfl rfl (Nat.le_of_ble_eq_true rfl) rfl) ?_
        refine r_p (pc' := 23) (p_goto (off := -2957) (tgt := 23) (by decide +kernel) (by decide)) ?_
        refine r_sub (lv' := [(0, vt 999), (1, vr v1), (2, vr v2), (3, vr v3), (4, vi (x + 6))]) [3, 4, 5, 6, 0] rfl ?_
        exact hb (x + 6) _
      · refine r_p (pc' := 2638) (p_iconst (n := 0) (v := 0) (by decide +kernel) rfl) ?_
        exact r_iret hk rfl _ rfl rfl (by decide +kernel)
    · refine r_p (pc' := 2977) (p_goto (off := 338) (tgt := 2977) (by decide +kernel) (by decide)) ?_
      refine r_p (pc' := 2980) (p_iinc 6 (i := 4) (n := 6) (x := x) (v := x + 6) (lv' := [(4, vi (x + 6)), (6, vi v493), (5, vi v489), (0, vt 999), (1, vr v1), (2, vr v2), (3, vr v3)]) (by decide +kernel) rfl rfl (Nat.le_of_ble_eq_true rfl) rfl) ?_
      refine r_p (pc' := 23) (p_goto (off := -2957) (tgt := 23) (by decide +kernel) (by decide)) ?_
      refine r_sub (lv' := [(0, vt 999), (1, vr v1), (2, vr v2), (3, vr v3), (4, vi (x + 6))]) [3, 4, 5, 6, 0] rfl ?_
      exact hb (x + 6) _
  · refine r_p (pc' := 2621) (p_iconst (n := 0) (v := 0) (by decide +kernel) rfl) ?_
    exact r_iret hk rfl _ rfl rfl (by decide +kernel)
set_option maxHeartbeats 4000000 in
set_option maxRecDepth 100000 in
theorem rmL_main_c39 (n0 : Nat) (xs : Nat → Int32) (v1 : Nat) (v2 : Nat) (v3 : Nat) (x : Int32) (v6 : Int32) (Y : DyA) (hx : wX (yW Y) = xs ∧ wL (yW Y) = n0) (K : Int32 ⊕ (Unit ⊕ Unit) → MM Int32) (hb : ∀ (x : Int32) (s : aS), Rr aL_main Y 23 [(0, vt 999), (1, vr v1), (2, vr v2), (3, vr v3), (4, vi x)] [] (mret (.inl x) : MM (Int32 ⊕ (Unit ⊕ Unit))) K rI s) (hk : K (.inr (.inr ())) = mret 0) (hk1 : K (.inr (.inl ())) = mret 1) (s : aS) : Rr aL_main Y 2642 [(0, vt 999), (1, vr v1), (2, vr v2), (3, vr v3), (4, vi x)] [] (mL_main_c39 n0 xs v1 v2 v3 x) K rI s := by
  unfold mL_main_c39
  refine r_p (pc' := 2643) (p_aload_n 1 (k := 1) (by decide +kernel) rfl) ?_
  refine r_p (pc' := 2644) (p_tload_n 0 (k := 0) (Nat.le_of_ble_eq_true rfl) (by decide +kernel) rfl) ?_
  refine r_p (pc' := 2646) (p_iload 4 (i := 4) (by decide +kernel) rfl) ?_
  refine r_p (pc' := 2647) (p_iconst (n := 1) (v := 1) (by decide +kernel) rfl) ?_
  refine r_p (pc' := 2648) (p_iadd (by decide +kernel)) ?_
  refine r_sldx (by decide +kernel) hx fun v500 => ?_
  refine r_p (pc' := 2650) (p_aload_n 3 (k := 3) (by decide +kernel) rfl) ?_
  refine r_callSH msL_276 (ctL_sure v1 v500 v3) (as := [vr v1, vi v500, vr v3]) (st := []) rfl rfl (by decide +kernel) rfl (Nat.le_of_ble_eq_true rfl) (Nat.le_of_ble_eq_true rfl) fun v501 s => ?_
  refine r_p (pc' := 2655) (p_istore (i := 5) (lv' := [(5, vi v501), (0, vt 999), (1, vr v1), (2, vr v2), (3, vr v3), (4, vi x)]) (by decide +kernel) (Nat.le_of_ble_eq_true rfl) rfl) ?_
  refine r_p (pc' := 2656) (p_aload_n 3 (k := 2) (by decide +kernel) rfl) ?_
  refine r_p (pc' := 2657) (p_tload_n 1 (k := 0) (Nat.le_of_ble_eq_true rfl) (by decide +kernel) rfl) ?_
  refine r_p (pc' := 2659) (p_iload 5 (i := 4) (by decide +kernel) rfl) ?_
  refine r_p (pc' := 2660) (p_iconst (n := 1) (v := 1) (by decide +kernel) rfl) ?_
  refine r_p (pc' := 2661) (p_iadd (by decide +kernel)) ?_
  refine r_sldx (by decide +kernel) hx fun v502 => ?_
  refine r_callVI mvL_278 (ctX12_sure v2 v502) (rcX12_sure v2 v502) ⟨_, _, rfl⟩ (as := [vi v502]) (st := []) rfl rfl (by decide +kernel) rfl (Nat.le_of_ble_eq_true rfl) (Nat.le_of_ble_eq_true rfl) fun v503 s => ?_
  refine r_p (pc' := 2667) (p_istore (i := 6) (lv' := [(6, vi v503), (5, vi v501), (0, vt 999), (1, vr v1), (2, vr v2), (3, vr v3), (4, vi x)]) (by decide +kernel) (Nat.le_of_ble_eq_true rfl) rfl) ?_
  refine r_p (pc' := 2668) (p_aload_n 4 (k := 2) (by decide +kernel) rfl) ?_
  refine r_callVI mvL_151 (ctX12_thrown v2) (rcX12_thrown v2) ⟨_, _, rfl⟩ (as := []) (st := []) rfl rfl (by decide +kernel) rfl (Nat.le_of_ble_eq_true rfl) (Nat.le_of_ble_eq_true rfl) fun v504 s => ?_
  refine r_p (pc' := 2673) (p_iload 1 (i := 5) (by decide +kernel) rfl) ?_
  refine r_icmpeq (off := 5) (tgt := 2678) (by decide +kernel) (by decide) (fun h505 => ?_) (fun h505 => ?_)
  · refine r_p (pc' := 2680) (p_iload 1 (i := 5) (by decide +kernel) rfl) ?_
    refine r_ifne (off := 15) (tgt := 2695) (by decide +kernel) (by decide) (fun h506 => ?_) (fun h506 => ?_)
    · refine r_p (pc' := 2684) (p_aload_n 5 (k := 3) (by decide +kernel) rfl) ?_
      refine r_p (pc' := 2685) (p_iconst (n := 0) (v := 0) (by decide +kernel) rfl) ?_
      refine r_ldL (by decide +kernel) fun v507 => ?_
      refine r_p (pc' := 2688) (p_iload 0 (i := 6) (by decide +kernel) rfl) ?_
      refine r_p (pc' := 2689) (p_i2l (by decide +kernel)) ?_
      refine r_p (pc' := 2690) (p_lcmp (by decide +kernel)) ?_
      refine r_ifeq (off := 5) (tgt := 2695) (by decide +kernel) (by decide) (fun h508 => ?_) (fun h508 => ?_)
      · refine r_p (pc' := 2977) (p_goto (off := 282) (tgt := 2977) (by decide +kernel) (by decide)) ?_
        refine r_p (pc' := 2980) (p_iinc 6 (i := 4) (n := 6) (x := x) (v := x + 6) (lv' := [(4, vi (x + 6)), (6, vi v503), (5, vi v501), (0, vt 999), (1, vr v1), (2, vr v2), (3, vr v3)]) (by decide +kernel) rfl rfl (Nat.le_of_ble_eq_true rfl) rfl) ?_
        refine r_p (pc' := 23) (p_goto (off := -2957) (tgt := 23) (by decide +kernel) (by decide)) ?_
        refine r_sub (lv' := [(0, vt 999), (1, vr v1), (2, vr v2), (3, vr v3), (4, vi (x + 6))]) [3, 4, 5, 6, 0] rfl ?_
        exact hb (x + 6) _
      · refine r_p (pc' := 2694) (p_iconst (n := 0) (v := 0) (by decide +kernel) rfl) ?_
        exact r_iret hk rfl _ rfl rfl (by decide +kernel)
    · refine r_p (pc' := 2977) (p_goto (off := 282) (tgt := 2977) (by decide +kernel) (by decide)) ?_
      refine r_p (pc' := 2980) (p_iinc 6 (i := 4) (n := 6) (x := x) (v := x + 6) (lv' := [(4, vi (x + 6)), (6, vi v503), (5, vi v501), (0, vt 999), (1, vr v1), (2, vr v2), (3, vr v3)]) (by decide +kernel) rfl rfl (Nat.le_of_ble_eq_true rfl) rfl) ?_
      refine r_p (pc' := 23) (p_goto (off := -2957) (tgt := 23) (by decide +kernel) (by decide)) ?_
      refine r_sub (lv' := [(0, vt 999), (1, vr v1), (2, vr v2), (3, vr v3), (4, vi (x + 6))]) [3, 4, 5, 6, 0] rfl ?_
      exact hb (x + 6) _
  · refine r_p (pc' := 2677) (p_iconst (n := 0) (v := 0) (by decide +kernel) rfl) ?_
    exact r_iret hk rfl _ rfl rfl (by decide +kernel)
set_option maxHeartbeats 4000000 in
set_option maxRecDepth 100000 in
theorem rmL_main_c40 (n0 : Nat) (xs : Nat → Int32) (v1 : Nat) (v2 : Nat) (v3 : Nat) (x : Int32) (v6 : Int32) (Y : DyA) (hx : wX (yW Y) = xs ∧ wL (yW Y) = n0) (K : Int32 ⊕ (Unit ⊕ Unit) → MM Int32) (hb : ∀ (x : Int32) (s : aS), Rr aL_main Y 23 [(0, vt 999), (1, vr v1), (2, vr v2), (3, vr v3), (4, vi x)] [] (mret (.inl x) : MM (Int32 ⊕ (Unit ⊕ Unit))) K rI s) (hk : K (.inr (.inr ())) = mret 0) (hk1 : K (.inr (.inl ())) = mret 1) (s : aS) : Rr aL_main Y 2698 [(0, vt 999), (1, vr v1), (2, vr v2), (3, vr v3), (4, vi x)] [] (mL_main_c40 n0 xs v1 v2 v3 x) K rI s := by
  unfold mL_main_c40
  refine r_p (pc' := 2699) (p_aload_n 1 (k := 1) (by decide +kernel) rfl) ?_
  refine r_p (pc' := 2700) (p_tload_n 0 (k := 0) (Nat.le_of_ble_eq_true rfl) (by decide +kernel) rfl) ?_
  refine r_p (pc' := 2702) (p_iload 4 (i := 4) (by decide +kernel) rfl) ?_
  refine r_p (pc' := 2703) (p_iconst (n := 1) (v := 1) (by decide +kernel) rfl) ?_
  refine r_p (pc' := 2704) (p_iadd (by decide +kernel)) ?_
  refine r_sldx (by decide +kernel) hx fun v510 => ?_
  refine r_p (pc' := 2706) (p_tload_n 0 (k := 0) (Nat.le_of_ble_eq_true rfl) (by decide +kernel) rfl) ?_
  refine r_p (pc' := 2708) (p_iload 4 (i := 4) (by decide +kernel) rfl) ?_
  refine r_p (pc' := 2709) (p_iconst (n := 2) (v := 2) (by decide +kernel) rfl) ?_
  refine r_p (pc' := 2710) (p_iadd (by decide +kernel)) ?_
  refine r_sldx (by decide +kernel) hx fun v511 => ?_
  refine r_p (pc' := 2712) (p_aload_n 3 (k := 3) (by decide +kernel) rfl) ?_
  refine r_callSH msL_279 (ctL_truth v1 v510 v511 v3) (as := [vr v1, vi v510, vi v511, vr v3]) (st := []) rfl rfl (by decide +kernel) rfl (Nat.le_of_ble_eq_true rfl) (Nat.le_of_ble_eq_true rfl) fun v512 s => ?_
  refine r_p (pc' := 2717) (p_istore (i := 5) (lv' := [(5, vi v512), (0, vt 999), (1, vr v1), (2, vr v2), (3, vr v3), (4, vi x)]) (by decide +kernel) (Nat.le_of_ble_eq_true rfl) rfl) ?_
  refine r_p (pc' := 2718) (p_aload_n 3 (k := 2) (by decide +kernel) rfl) ?_
  refine r_p (pc' := 2719) (p_tload_n 1 (k := 0) (Nat.le_of_ble_eq_true rfl) (by decide +kernel) rfl) ?_
  refine r_p (pc' := 2721) (p_iload 5 (i := 4) (by decide +kernel) rfl) ?_
  refine r_p (pc' := 2722) (p_iconst (n := 1) (v := 1) (by decide +kernel) rfl) ?_
  refine r_p (pc' := 2723) (p_iadd (by decide +kernel)) ?_
  refine r_sldx (by decide +kernel) hx fun v513 => ?_
  refine r_p (pc' := 2725) (p_tload_n 1 (k := 0) (Nat.le_of_ble_eq_true rfl) (by decide +kernel) rfl) ?_
  refine r_p (pc' := 2727) (p_iload 5 (i := 4) (by decide +kernel) rfl) ?_
  refine r_p (pc' := 2728) (p_iconst (n := 2) (v := 2) (by decide +kernel) rfl) ?_
  refine r_p (pc' := 2729) (p_iadd (by decide +kernel)) ?_
  refine r_sldx (by decide +kernel) hx fun v514 => ?_
  refine r_callVI mvL_281 (ctX12_truth v2 v513 v514) (rcX12_truth v2 v513 v514) ⟨_, _, rfl⟩ (as := [vi v513, vi v514]) (st := []) rfl rfl (by decide +kernel) rfl (Nat.le_of_ble_eq_true rfl) (Nat.le_of_ble_eq_true rfl) fun v515 s => ?_
  refine r_p (pc' := 2735) (p_istore (i := 6) (lv' := [(6, vi v515), (5, vi v512), (0, vt 999), (1, vr v1), (2, vr v2), (3, vr v3), (4, vi x)]) (by decide +kernel) (Nat.le_of_ble_eq_true rfl) rfl) ?_
  refine r_p (pc' := 2736) (p_aload_n 4 (k := 2) (by decide +kernel) rfl) ?_
  refine r_callVI mvL_151 (ctX12_thrown v2) (rcX12_thrown v2) ⟨_, _, rfl⟩ (as := []) (st := []) rfl rfl (by decide +kernel) rfl (Nat.le_of_ble_eq_true rfl) (Nat.le_of_ble_eq_true rfl) fun v516 s => ?_
  refine r_p (pc' := 2741) (p_iload 1 (i := 5) (by decide +kernel) rfl) ?_
  refine r_icmpeq (off := 5) (tgt := 2746) (by decide +kernel) (by decide) (fun h517 => ?_) (fun h517 => ?_)
  · refine r_p (pc' := 2748) (p_iload 1 (i := 5) (by decide +kernel) rfl) ?_
    refine r_ifne (off := 15) (tgt := 2763) (by decide +kernel) (by decide) (fun h518 => ?_) (fun h518 => ?_)
    · refine r_p (pc' := 2752) (p_aload_n 5 (k := 3) (by decide +kernel) rfl) ?_
      refine r_p (pc' := 2753) (p_iconst (n := 0) (v := 0) (by decide +kernel) rfl) ?_
      refine r_ldL (by decide +kernel) fun v519 => ?_
      refine r_p (pc' := 2756) (p_iload 0 (i := 6) (by decide +kernel) rfl) ?_
      refine r_p (pc' := 2757) (p_i2l (by decide +kernel)) ?_
      refine r_p (pc' := 2758) (p_lcmp (by decide +kernel)) ?_
      refine r_ifeq (off := 5) (tgt := 2763) (by decide +kernel) (by decide) (fun h520 => ?_) (fun h520 => ?_)
      · refine r_p (pc' := 2977) (p_goto (off := 214) (tgt := 2977) (by decide +kernel) (by decide)) ?_
        refine r_p (pc' := 2980) (p_iinc 6 (i := 4) (n := 6) (x := x) (v := x + 6) (lv' := [(4, vi (x + 6)), (6, vi v515), (5, vi v512), (0, vt 999), (1, vr v1), (2, vr v2), (3, vr v3)]) (by decide +kernel) rfl rfl (Nat.le_of_ble_eq_true rfl) rfl) ?_
        refine r_p (pc' := 23) (p_goto (off := -2957) (tgt := 23) (by decide +kernel) (by decide)) ?_
        refine r_sub (lv' := [(0, vt 999), (1, vr v1), (2, vr v2), (3, vr v3), (4, vi (x + 6))]) [3, 4, 5, 6, 0] rfl ?_
        exact hb (x + 6) _
      · refine r_p (pc' := 2762) (p_iconst (n := 0) (v := 0) (by decide +kernel) rfl) ?_
        exact r_iret hk rfl _ rfl rfl (by decide +kernel)
    · refine r_p (pc' := 2977) (p_goto (off := 214) (tgt := 2977) (by decide +kernel) (by decide)) ?_
      refine r_p (pc' := 2980) (p_iinc 6 (i := 4) (n := 6) (x := x) (v := x + 6) (lv' := [(4, vi (x + 6)), (6, vi v515), (5, vi v512), (0, vt 999), (1, vr v1), (2, vr v2), (3, vr v3)]) (by decide +kernel) rfl rfl (Nat.le_of_ble_eq_true rfl) rfl) ?_
      refine r_p (pc' := 23) (p_goto (off := -2957) (tgt := 23) (by decide +kernel) (by decide)) ?_
      refine r_sub (lv' := [(0, vt 999), (1, vr v1), (2, vr v2), (3, vr v3), (4, vi (x + 6))]) [3, 4, 5, 6, 0] rfl ?_
      exact hb (x + 6) _
  · refine r_p (pc' := 2745) (p_iconst (n := 0) (v := 0) (by decide +kernel) rfl) ?_
    exact r_iret hk rfl _ rfl rfl (by decide +kernel)
set_option maxHeartbeats 4000000 in
set_option maxRecDepth 100000 in
theorem rmL_main_c41 (n0 : Nat) (xs : Nat → Int32) (v1 : Nat) (v2 : Nat) (v3 : Nat) (x : Int32) (v6 : Int32) (Y : DyA) (hx : wX (yW Y) = xs ∧ wL (yW Y) = n0) (K : Int32 ⊕ (Unit ⊕ Unit) → MM Int32) (hb : ∀ (x : Int32) (s : aS), Rr aL_main Y 23 [(0, vt 999), (1, vr v1), (2, vr v2), (3, vr v3), (4, vi x)] [] (mret (.inl x) : MM (Int32 ⊕ (Unit ⊕ Unit))) K rI s) (hk : K (.inr (.inr ())) = mret 0) (hk1 : K (.inr (.inl ())) = mret 1) (s : aS) : Rr aL_main Y 2766 [(0, vt 999), (1, vr v1), (2, vr v2), (3, vr v3), (4, vi x)] [] (mL_main_c41 n0 xs v1 v2 v3 x) K rI s := by
  unfold mL_main_c41
  refine r_p (pc' := 2767) (p_aload_n 1 (k := 1) (by decide +kernel) rfl) ?_
  refine r_p (pc' := 2768) (p_tload_n 0 (k := 0) (Nat.le_of_ble_eq_true rfl) (by decide +kernel) rfl) ?_
  refine r_p (pc' := 2770) (p_iload 4 (i := 4) (by decide +kernel) rfl) ?_
  refine r_p (pc' := 2771) (p_iconst (n := 1) (v := 1) (by decide +kernel) rfl) ?_
  refine r_p (pc' := 2772) (p_iadd (by decide +kernel)) ?_
  refine r_sldx (by decide +kernel) hx fun v522 => ?_
  refine r_p (pc' := 2774) (p_tload_n 0 (k := 0) (Nat.le_of_ble_eq_true rfl) (by decide +kernel) rfl) ?_
  refine r_p (pc' := 2776) (p_iload 4 (i := 4) (by decide +kernel) rfl) ?_
  refine r_p (pc' := 2777) (p_iconst (n := 2) (v := 2) (by decide +kernel) rfl) ?_
  refine r_p (pc' := 2778) (p_iadd (by decide +kernel)) ?_
  refine r_sldx (by decide +kernel) hx fun v523 => ?_
  refine r_p (pc' := 2780) (p_aload_n 3 (k := 3) (by decide +kernel) rfl) ?_
  refine r_callSH msL_282 (ctL_log v1 v522 v523 v3) (as := [vr v1, vi v522, vi v523, vr v3]) (st := []) rfl rfl (by decide +kernel) rfl (Nat.le_of_ble_eq_true rfl) (Nat.le_of_ble_eq_true rfl) fun v524 s => ?_
  refine r_p (pc' := 2785) (p_istore (i := 5) (lv' := [(5, vi v524), (0, vt 999), (1, vr v1), (2, vr v2), (3, vr v3), (4, vi x)]) (by decide +kernel) (Nat.le_of_ble_eq_true rfl) rfl) ?_
  refine r_p (pc' := 2786) (p_aload_n 3 (k := 2) (by decide +kernel) rfl) ?_
  refine r_p (pc' := 2787) (p_tload_n 1 (k := 0) (Nat.le_of_ble_eq_true rfl) (by decide +kernel) rfl) ?_
  refine r_p (pc' := 2789) (p_iload 5 (i := 4) (by decide +kernel) rfl) ?_
  refine r_p (pc' := 2790) (p_iconst (n := 1) (v := 1) (by decide +kernel) rfl) ?_
  refine r_p (pc' := 2791) (p_iadd (by decide +kernel)) ?_
  refine r_sldx (by decide +kernel) hx fun v525 => ?_
  refine r_p (pc' := 2793) (p_tload_n 1 (k := 0) (Nat.le_of_ble_eq_true rfl) (by decide +kernel) rfl) ?_
  refine r_p (pc' := 2795) (p_iload 5 (i := 4) (by decide +kernel) rfl) ?_
  refine r_p (pc' := 2796) (p_iconst (n := 2) (v := 2) (by decide +kernel) rfl) ?_
  refine r_p (pc' := 2797) (p_iadd (by decide +kernel)) ?_
  refine r_sldx (by decide +kernel) hx fun v526 => ?_
  refine r_callVI mvL_284 (ctX12_log v2 v525 v526) (rcX12_log v2 v525 v526) ⟨_, _, rfl⟩ (as := [vi v525, vi v526]) (st := []) rfl rfl (by decide +kernel) rfl (Nat.le_of_ble_eq_true rfl) (Nat.le_of_ble_eq_true rfl) fun v527 s => ?_
  refine r_p (pc' := 2803) (p_istore (i := 6) (lv' := [(6, vi v527), (5, vi v524), (0, vt 999), (1, vr v1), (2, vr v2), (3, vr v3), (4, vi x)]) (by decide +kernel) (Nat.le_of_ble_eq_true rfl) rfl) ?_
  refine r_p (pc' := 2804) (p_aload_n 4 (k := 2) (by decide +kernel) rfl) ?_
  refine r_callVI mvL_151 (ctX12_thrown v2) (rcX12_thrown v2) ⟨_, _, rfl⟩ (as := []) (st := []) rfl rfl (by decide +kernel) rfl (Nat.le_of_ble_eq_true rfl) (Nat.le_of_ble_eq_true rfl) fun v528 s => ?_
  refine r_p (pc' := 2809) (p_iload 1 (i := 5) (by decide +kernel) rfl) ?_
  refine r_icmpeq (off := 5) (tgt := 2814) (by decide +kernel) (by decide) (fun h529 => ?_) (fun h529 => ?_)
  · refine r_p (pc' := 2816) (p_iload 1 (i := 5) (by decide +kernel) rfl) ?_
    refine r_ifne (off := 15) (tgt := 2831) (by decide +kernel) (by decide) (fun h530 => ?_) (fun h530 => ?_)
    · refine r_p (pc' := 2820) (p_aload_n 5 (k := 3) (by decide +kernel) rfl) ?_
      refine r_p (pc' := 2821) (p_iconst (n := 0) (v := 0) (by decide +kernel) rfl) ?_
      refine r_ldL (by decide +kernel) fun v531 => ?_
      refine r_p (pc' := 2824) (p_iload 0 (i := 6) (by decide +kernel) rfl) ?_
      refine r_p (pc' := 2825) (p_i2l (by decide +kernel)) ?_
      refine r_p (pc' := 2826) (p_lcmp (by decide +kernel)) ?_
      refine r_ifeq (off := 5) (tgt := 2831) (by decide +kernel) (by decide) (fun h532 => ?_) (fun h532 => ?_)
      · refine r_p (pc' := 2977) (p_goto (off := 146) (tgt := 2977) (by decide +kernel) (by decide)) ?_
        refine r_p (pc' := 2980) (p_iinc 6 (i := 4) (n := 6) (x := x) (v := x + 6) (lv' := [(4, vi (x + 6)), (6, vi v527), (5, vi v524), (0, vt 999), (1, vr v1), (2, vr v2), (3, vr v3)]) (by decide +kernel) rfl rfl (Nat.le_of_ble_eq_true rfl) rfl) ?_
        refine r_p (pc' := 23) (p_goto (off := -2957) (tgt := 23) (by decide +kernel) (by decide)) ?_
        refine r_sub (lv' := [(0, vt 999), (1, vr v1), (2, vr v2), (3, vr v3), (4, vi (x + 6))]) [3, 4, 5, 6, 0] rfl ?_
        exact hb (x + 6) _
      · refine r_p (pc' := 2830) (p_iconst (n := 0) (v := 0) (by decide +kernel) rfl) ?_
        exact r_iret hk rfl _ rfl rfl (by decide +kernel)
    · refine r_p (pc' := 2977) (p_goto (off := 146) (tgt := 2977) (by decide +kernel) (by decide)) ?_
      refine r_p (pc' := 2980) (p_iinc 6 (i := 4) (n := 6) (x := x) (v := x + 6) (lv' := [(4, vi (x + 6)), (6, vi v527), (5, vi v524), (0, vt 999), (1, vr v1), (2, vr v2), (3, vr v3)]) (by decide +kernel) rfl rfl (Nat.le_of_ble_eq_true rfl) rfl) ?_
      refine r_p (pc' := 23) (p_goto (off := -2957) (tgt := 23) (by decide +kernel) (by decide)) ?_
      refine r_sub (lv' := [(0, vt 999), (1, vr v1), (2, vr v2), (3, vr v3), (4, vi (x + 6))]) [3, 4, 5, 6, 0] rfl ?_
      exact hb (x + 6) _
  · refine r_p (pc' := 2813) (p_iconst (n := 0) (v := 0) (by decide +kernel) rfl) ?_
    exact r_iret hk rfl _ rfl rfl (by decide +kernel)
set_option maxHeartbeats 4000000 in
set_option maxRecDepth 100000 in
theorem rmL_main_c42 (n0 : Nat) (xs : Nat → Int32) (v1 : Nat) (v2 : Nat) (v3 : Nat) (x : Int32) (v6 : Int32) (Y : DyA) (hx : wX (yW Y) = xs ∧ wL (yW Y) = n0) (K : Int32 ⊕ (Unit ⊕ Unit) → MM Int32) (hb : ∀ (x : Int32) (s : aS), Rr aL_main Y 23 [(0, vt 999), (1, vr v1), (2, vr v2), (3, vr v3), (4, vi x)] [] (mret (.inl x) : MM (Int32 ⊕ (Unit ⊕ Unit))) K rI s) (hk : K (.inr (.inr ())) = mret 0) (hk1 : K (.inr (.inl ())) = mret 1) (s : aS) : Rr aL_main Y 2834 [(0, vt 999), (1, vr v1), (2, vr v2), (3, vr v3), (4, vi x)] [] (mL_main_c42 n0 xs v1 v2 v3 x) K rI s := by
  unfold mL_main_c42
  refine r_p (pc' := 2835) (p_aload_n 1 (k := 1) (by decide +kernel) rfl) ?_
  refine r_p (pc' := 2836) (p_tload_n 0 (k := 0) (Nat.le_of_ble_eq_true rfl) (by decide +kernel) rfl) ?_
  refine r_p (pc' := 2838) (p_iload 4 (i := 4) (by decide +kernel) rfl) ?_
  refine r_p (pc' := 2839) (p_iconst (n := 1) (v := 1) (by decide +kernel) rfl) ?_
  refine r_p (pc' := 2840) (p_iadd (by decide +kernel)) ?_
  refine r_sldx (by decide +kernel) hx fun v534 => ?_
  refine r_p (pc' := 2842) (p_aload_n 3 (k := 3) (by decide +kernel) rfl) ?_
  refine r_callSH msL_285 (ctL_led v1 v534 v3) (as := [vr v1, vi v534, vr v3]) (st := []) rfl rfl (by decide +kernel) rfl (Nat.le_of_ble_eq_true rfl) (Nat.le_of_ble_eq_true rfl) fun v535 s => ?_
  refine r_p (pc' := 2847) (p_istore (i := 5) (lv' := [(5, vi v535), (0, vt 999), (1, vr v1), (2, vr v2), (3, vr v3), (4, vi x)]) (by decide +kernel) (Nat.le_of_ble_eq_true rfl) rfl) ?_
  refine r_p (pc' := 2848) (p_aload_n 3 (k := 2) (by decide +kernel) rfl) ?_
  refine r_p (pc' := 2849) (p_tload_n 1 (k := 0) (Nat.le_of_ble_eq_true rfl) (by decide +kernel) rfl) ?_
  refine r_p (pc' := 2851) (p_iload 5 (i := 4) (by decide +kernel) rfl) ?_
  refine r_p (pc' := 2852) (p_iconst (n := 1) (v := 1) (by decide +kernel) rfl) ?_
  refine r_p (pc' := 2853) (p_iadd (by decide +kernel)) ?_
  refine r_sldx (by decide +kernel) hx fun v536 => ?_
  refine r_callVI mvL_287 (ctX12_led v2 v536) (rcX12_led v2 v536) ⟨_, _, rfl⟩ (as := [vi v536]) (st := []) rfl rfl (by decide +kernel) rfl (Nat.le_of_ble_eq_true rfl) (Nat.le_of_ble_eq_true rfl) fun v537 s => ?_
  refine r_p (pc' := 2859) (p_istore (i := 6) (lv' := [(6, vi v537), (5, vi v535), (0, vt 999), (1, vr v1), (2, vr v2), (3, vr v3), (4, vi x)]) (by decide +kernel) (Nat.le_of_ble_eq_true rfl) rfl) ?_
  refine r_p (pc' := 2860) (p_aload_n 4 (k := 2) (by decide +kernel) rfl) ?_
  refine r_callVI mvL_151 (ctX12_thrown v2) (rcX12_thrown v2) ⟨_, _, rfl⟩ (as := []) (st := []) rfl rfl (by decide +kernel) rfl (Nat.le_of_ble_eq_true rfl) (Nat.le_of_ble_eq_true rfl) fun v538 s => ?_
  refine r_p (pc' := 2865) (p_iload 1 (i := 5) (by decide +kernel) rfl) ?_
  refine r_icmpeq (off := 5) (tgt := 2870) (by decide +kernel) (by decide) (fun h539 => ?_) (fun h539 => ?_)
  · refine r_p (pc' := 2872) (p_iload 1 (i := 5) (by decide +kernel) rfl) ?_
    refine r_ifne (off := 15) (tgt := 2887) (by decide +kernel) (by decide) (fun h540 => ?_) (fun h540 => ?_)
    · refine r_p (pc' := 2876) (p_aload_n 5 (k := 3) (by decide +kernel) rfl) ?_
      refine r_p (pc' := 2877) (p_iconst (n := 0) (v := 0) (by decide +kernel) rfl) ?_
      refine r_ldL (by decide +kernel) fun v541 => ?_
      refine r_p (pc' := 2880) (p_iload 0 (i := 6) (by decide +kernel) rfl) ?_
      refine r_p (pc' := 2881) (p_i2l (by decide +kernel)) ?_
      refine r_p (pc' := 2882) (p_lcmp (by decide +kernel)) ?_
      refine r_ifeq (off := 5) (tgt := 2887) (by decide +kernel) (by decide) (fun h542 => ?_) (fun h542 => ?_)
      · refine r_p (pc' := 2977) (p_goto (off := 90) (tgt := 2977) (by decide +kernel) (by decide)) ?_
        refine r_p (pc' := 2980) (p_iinc 6 (i := 4) (n := 6) (x := x) (v := x + 6) (lv' := [(4, vi (x + 6)), (6, vi v537), (5, vi v535), (0, vt 999), (1, vr v1), (2, vr v2), (3, vr v3)]) (by decide +kernel) rfl rfl (Nat.le_of_ble_eq_true rfl) rfl) ?_
        refine r_p (pc' := 23) (p_goto (off := -2957) (tgt := 23) (by decide +kernel) (by decide)) ?_
        refine r_sub (lv' := [(0, vt 999), (1, vr v1), (2, vr v2), (3, vr v3), (4, vi (x + 6))]) [3, 4, 5, 6, 0] rfl ?_
        exact hb (x + 6) _
      · refine r_p (pc' := 2886) (p_iconst (n := 0) (v := 0) (by decide +kernel) rfl) ?_
        exact r_iret hk rfl _ rfl rfl (by decide +kernel)
    · refine r_p (pc' := 2977) (p_goto (off := 90) (tgt := 2977) (by decide +kernel) (by decide)) ?_
      refine r_p (pc' := 2980) (p_iinc 6 (i := 4) (n := 6) (x := x) (v := x + 6) (lv' := [(4, vi (x + 6)), (6, vi v537), (5, vi v535), (0, vt 999), (1, vr v1), (2, vr v2), (3, vr v3)]) (by decide +kernel) rfl rfl (Nat.le_of_ble_eq_true rfl) rfl) ?_
      refine r_p (pc' := 23) (p_goto (off := -2957) (tgt := 23) (by decide +kernel) (by decide)) ?_
      refine r_sub (lv' := [(0, vt 999), (1, vr v1), (2, vr v2), (3, vr v3), (4, vi (x + 6))]) [3, 4, 5, 6, 0] rfl ?_
      exact hb (x + 6) _
  · refine r_p (pc' := 2869) (p_iconst (n := 0) (v := 0) (by decide +kernel) rfl) ?_
    exact r_iret hk rfl _ rfl rfl (by decide +kernel)
set_option maxHeartbeats 4000000 in
set_option maxRecDepth 100000 in
theorem rmL_main_c43 (n0 : Nat) (xs : Nat → Int32) (v1 : Nat) (v2 : Nat) (v3 : Nat) (x : Int32) (v6 : Int32) (Y : DyA) (hx : wX (yW Y) = xs ∧ wL (yW Y) = n0) (K : Int32 ⊕ (Unit ⊕ Unit) → MM Int32) (hb : ∀ (x : Int32) (s : aS), Rr aL_main Y 23 [(0, vt 999), (1, vr v1), (2, vr v2), (3, vr v3), (4, vi x)] [] (mret (.inl x) : MM (Int32 ⊕ (Unit ⊕ Unit))) K rI s) (hk : K (.inr (.inr ())) = mret 0) (hk1 : K (.inr (.inl ())) = mret 1) (s : aS) : Rr aL_main Y 2890 [(0, vt 999), (1, vr v1), (2, vr v2), (3, vr v3), (4, vi x)] [] (mL_main_c43 n0 xs v1 v2 x) K rI s := by
  unfold mL_main_c43
  refine r_p (pc' := 2891) (p_aload_n 1 (k := 1) (by decide +kernel) rfl) ?_
  refine r_p (pc' := 2892) (p_tload_n 0 (k := 0) (Nat.le_of_ble_eq_true rfl) (by decide +kernel) rfl) ?_
  refine r_p (pc' := 2894) (p_iload 4 (i := 4) (by decide +kernel) rfl) ?_
  refine r_p (pc' := 2895) (p_iconst (n := 1) (v := 1) (by decide +kernel) rfl) ?_
  refine r_p (pc' := 2896) (p_iadd (by decide +kernel)) ?_
  refine r_sldx (by decide +kernel) hx fun v544 => ?_
  refine r_callVI mvL_288 (ctX11_seed v1 v544) (rcX11_seed v1 v544) ⟨_, _, rfl⟩ (as := [vi v544]) (st := []) rfl rfl (by decide +kernel) rfl (Nat.le_of_ble_eq_true rfl) (Nat.le_of_ble_eq_true rfl) fun v545 s => ?_
  refine r_p (pc' := 2901) (p_aload_n 2 (k := 2) (by decide +kernel) rfl) ?_
  refine r_p (pc' := 2902) (p_tload_n 0 (k := 0) (Nat.le_of_ble_eq_true rfl) (by decide +kernel) rfl) ?_
  refine r_p (pc' := 2904) (p_iload 4 (i := 4) (by decide +kernel) rfl) ?_
  refine r_p (pc' := 2905) (p_iconst (n := 1) (v := 1) (by decide +kernel) rfl) ?_
  refine r_p (pc' := 2906) (p_iadd (by decide +kernel)) ?_
  refine r_sldx (by decide +kernel) hx fun v546 => ?_
  refine r_callVI mvL_291 (ctX12_seed v2 v546) (rcX12_seed v2 v546) ⟨_, _, rfl⟩ (as := [vi v546]) (st := [vi v545]) rfl rfl (by decide +kernel) rfl (Nat.le_of_ble_eq_true rfl) (Nat.le_of_ble_eq_true rfl) fun v547 s => ?_
  refine r_icmpeq (off := 67) (tgt := 2977) (by decide +kernel) (by decide) (fun h548 => ?_) (fun h548 => ?_)
  · refine r_p (pc' := 2980) (p_iinc 4 (i := 4) (n := 6) (x := x) (v := x + 6) (lv' := [(4, vi (x + 6)), (0, vt 999), (1, vr v1), (2, vr v2), (3, vr v3)]) (by decide +kernel) rfl rfl (Nat.le_of_ble_eq_true rfl) rfl) ?_
    refine r_p (pc' := 23) (p_goto (off := -2957) (tgt := 23) (by decide +kernel) (by decide)) ?_
    refine r_sub (lv' := [(0, vt 999), (1, vr v1), (2, vr v2), (3, vr v3), (4, vi (x + 6))]) [1, 2, 3, 4, 0] rfl ?_
    exact hb (x + 6) _
  · refine r_p (pc' := 2914) (p_iconst (n := 0) (v := 0) (by decide +kernel) rfl) ?_
    exact r_iret hk rfl _ rfl rfl (by decide +kernel)
set_option maxHeartbeats 4000000 in
set_option maxRecDepth 100000 in
theorem rmL_main_c44 (n0 : Nat) (xs : Nat → Int32) (v1 : Nat) (v2 : Nat) (v3 : Nat) (x : Int32) (v6 : Int32) (Y : DyA) (hx : wX (yW Y) = xs ∧ wL (yW Y) = n0) (K : Int32 ⊕ (Unit ⊕ Unit) → MM Int32) (hb : ∀ (x : Int32) (s : aS), Rr aL_main Y 23 [(0, vt 999), (1, vr v1), (2, vr v2), (3, vr v3), (4, vi x)] [] (mret (.inl x) : MM (Int32 ⊕ (Unit ⊕ Unit))) K rI s) (hk : K (.inr (.inr ())) = mret 0) (hk1 : K (.inr (.inl ())) = mret 1) (s : aS) : Rr aL_main Y 2915 [(0, vt 999), (1, vr v1), (2, vr v2), (3, vr v3), (4, vi x)] [] (mL_main_c44 v1 v2 x) K rI s := by
  unfold mL_main_c44
  refine r_p (pc' := 2916) (p_aload_n 1 (k := 1) (by decide +kernel) rfl) ?_
  refine r_callVI mvL_292 (ctX11_undo v1) (rcX11_undo v1) ⟨_, _, rfl⟩ (as := []) (st := []) rfl rfl (by decide +kernel) rfl (Nat.le_of_ble_eq_true rfl) (Nat.le_of_ble_eq_true rfl) fun v550 s => ?_
  refine r_p (pc' := 2920) (p_aload_n 2 (k := 2) (by decide +kernel) rfl) ?_
  refine r_callVI mvL_296 (ctX12_undo v2) (rcX12_undo v2) ⟨_, _, rfl⟩ (as := []) (st := [vi v550]) rfl rfl (by decide +kernel) rfl (Nat.le_of_ble_eq_true rfl) (Nat.le_of_ble_eq_true rfl) fun v551 s => ?_
  refine r_icmpeq (off := 54) (tgt := 2977) (by decide +kernel) (by decide) (fun h552 => ?_) (fun h552 => ?_)
  · refine r_p (pc' := 2980) (p_iinc 4 (i := 4) (n := 6) (x := x) (v := x + 6) (lv' := [(4, vi (x + 6)), (0, vt 999), (1, vr v1), (2, vr v2), (3, vr v3)]) (by decide +kernel) rfl rfl (Nat.le_of_ble_eq_true rfl) rfl) ?_
    refine r_p (pc' := 23) (p_goto (off := -2957) (tgt := 23) (by decide +kernel) (by decide)) ?_
    refine r_sub (lv' := [(0, vt 999), (1, vr v1), (2, vr v2), (3, vr v3), (4, vi (x + 6))]) [1, 2, 3, 4, 0] rfl ?_
    exact hb (x + 6) _
  · refine r_p (pc' := 2927) (p_iconst (n := 0) (v := 0) (by decide +kernel) rfl) ?_
    exact r_iret hk rfl _ rfl rfl (by decide +kernel)
set_option maxHeartbeats 4000000 in
set_option maxRecDepth 100000 in
theorem rmL_main_c45 (n0 : Nat) (xs : Nat → Int32) (v1 : Nat) (v2 : Nat) (v3 : Nat) (x : Int32) (v6 : Int32) (Y : DyA) (hx : wX (yW Y) = xs ∧ wL (yW Y) = n0) (K : Int32 ⊕ (Unit ⊕ Unit) → MM Int32) (hb : ∀ (x : Int32) (s : aS), Rr aL_main Y 23 [(0, vt 999), (1, vr v1), (2, vr v2), (3, vr v3), (4, vi x)] [] (mret (.inl x) : MM (Int32 ⊕ (Unit ⊕ Unit))) K rI s) (hk : K (.inr (.inr ())) = mret 0) (hk1 : K (.inr (.inl ())) = mret 1) (s : aS) : Rr aL_main Y 2928 [(0, vt 999), (1, vr v1), (2, vr v2), (3, vr v3), (4, vi x)] [] (mL_main_c45 v1 v2 x) K rI s := by
  unfold mL_main_c45
  refine r_p (pc' := 2929) (p_aload_n 1 (k := 1) (by decide +kernel) rfl) ?_
  refine r_callVU mvL_297 (ctX11_image v1) (rcX11_image v1) ⟨_, _, rfl⟩ (as := []) (st := []) rfl rfl (by decide +kernel) rfl (Nat.le_of_ble_eq_true rfl) (Nat.le_of_ble_eq_true rfl) fun s => ?_
  refine r_p (pc' := 2933) (p_aload_n 2 (k := 2) (by decide +kernel) rfl) ?_
  refine r_callVU mvL_300 (ctX12_image v2) (rcX12_image v2) ⟨_, _, rfl⟩ (as := []) (st := []) rfl rfl (by decide +kernel) rfl (Nat.le_of_ble_eq_true rfl) (Nat.le_of_ble_eq_true rfl) fun s => ?_
  refine r_p (pc' := 2977) (p_goto (off := 41) (tgt := 2977) (by decide +kernel) (by decide)) ?_
  refine r_p (pc' := 2980) (p_iinc 4 (i := 4) (n := 6) (x := x) (v := x + 6) (lv' := [(4, vi (x + 6)), (0, vt 999), (1, vr v1), (2, vr v2), (3, vr v3)]) (by decide +kernel) rfl rfl (Nat.le_of_ble_eq_true rfl) rfl) ?_
  refine r_p (pc' := 23) (p_goto (off := -2957) (tgt := 23) (by decide +kernel) (by decide)) ?_
  refine r_sub (lv' := [(0, vt 999), (1, vr v1), (2, vr v2), (3, vr v3), (4, vi (x + 6))]) [1, 2, 3, 4, 0] rfl ?_
  exact hb (x + 6) _
set_option maxHeartbeats 4000000 in
set_option maxRecDepth 100000 in
theorem rmL_main_c46 (n0 : Nat) (xs : Nat → Int32) (v1 : Nat) (v2 : Nat) (v3 : Nat) (x : Int32) (v6 : Int32) (Y : DyA) (hx : wX (yW Y) = xs ∧ wL (yW Y) = n0) (K : Int32 ⊕ (Unit ⊕ Unit) → MM Int32) (hb : ∀ (x : Int32) (s : aS), Rr aL_main Y 23 [(0, vt 999), (1, vr v1), (2, vr v2), (3, vr v3), (4, vi x)] [] (mret (.inl x) : MM (Int32 ⊕ (Unit ⊕ Unit))) K rI s) (hk : K (.inr (.inr ())) = mret 0) (hk1 : K (.inr (.inl ())) = mret 1) (s : aS) : Rr aL_main Y 2939 [(0, vt 999), (1, vr v1), (2, vr v2), (3, vr v3), (4, vi x)] [] (mL_main_c46 v1 v2 x) K rI s := by
  unfold mL_main_c46
  refine r_p (pc' := 2940) (p_aload_n 1 (k := 1) (by decide +kernel) rfl) ?_
  refine r_callVI mvL_301 (ctX11_back v1) (rcX11_back v1) ⟨_, _, rfl⟩ (as := []) (st := []) rfl rfl (by decide +kernel) rfl (Nat.le_of_ble_eq_true rfl) (Nat.le_of_ble_eq_true rfl) fun v555 s => ?_
  refine r_p (pc' := 2944) (p_aload_n 2 (k := 2) (by decide +kernel) rfl) ?_
  refine r_callVI mvL_304 (ctX12_back v2) (rcX12_back v2) ⟨_, _, rfl⟩ (as := []) (st := [vi v555]) rfl rfl (by decide +kernel) rfl (Nat.le_of_ble_eq_true rfl) (Nat.le_of_ble_eq_true rfl) fun v556 s => ?_
  refine r_icmpeq (off := 30) (tgt := 2977) (by decide +kernel) (by decide) (fun h557 => ?_) (fun h557 => ?_)
  · refine r_p (pc' := 2980) (p_iinc 4 (i := 4) (n := 6) (x := x) (v := x + 6) (lv' := [(4, vi (x + 6)), (0, vt 999), (1, vr v1), (2, vr v2), (3, vr v3)]) (by decide +kernel) rfl rfl (Nat.le_of_ble_eq_true rfl) rfl) ?_
    refine r_p (pc' := 23) (p_goto (off := -2957) (tgt := 23) (by decide +kernel) (by decide)) ?_
    refine r_sub (lv' := [(0, vt 999), (1, vr v1), (2, vr v2), (3, vr v3), (4, vi (x + 6))]) [1, 2, 3, 4, 0] rfl ?_
    exact hb (x + 6) _
  · refine r_p (pc' := 2951) (p_iconst (n := 0) (v := 0) (by decide +kernel) rfl) ?_
    exact r_iret hk rfl _ rfl rfl (by decide +kernel)
set_option maxHeartbeats 4000000 in
set_option maxRecDepth 100000 in
theorem rmL_main_c47 (n0 : Nat) (xs : Nat → Int32) (v1 : Nat) (v2 : Nat) (v3 : Nat) (x : Int32) (v6 : Int32) (Y : DyA) (hx : wX (yW Y) = xs ∧ wL (yW Y) = n0) (K : Int32 ⊕ (Unit ⊕ Unit) → MM Int32) (hb : ∀ (x : Int32) (s : aS), Rr aL_main Y 23 [(0, vt 999), (1, vr v1), (2, vr v2), (3, vr v3), (4, vi x)] [] (mret (.inl x) : MM (Int32 ⊕ (Unit ⊕ Unit))) K rI s) (hk : K (.inr (.inr ())) = mret 0) (hk1 : K (.inr (.inl ())) = mret 1) (s : aS) : Rr aL_main Y 2952 [(0, vt 999), (1, vr v1), (2, vr v2), (3, vr v3), (4, vi x)] [] (mL_main_c47 n0 xs v1 v2 x) K rI s := by
  unfold mL_main_c47
  refine r_p (pc' := 2953) (p_aload_n 1 (k := 1) (by decide +kernel) rfl) ?_
  refine r_p (pc' := 2954) (p_tload_n 0 (k := 0) (Nat.le_of_ble_eq_true rfl) (by decide +kernel) rfl) ?_
  refine r_p (pc' := 2956) (p_iload 4 (i := 4) (by decide +kernel) rfl) ?_
  refine r_p (pc' := 2957) (p_iconst (n := 1) (v := 1) (by decide +kernel) rfl) ?_
  refine r_p (pc' := 2958) (p_iadd (by decide +kernel)) ?_
  refine r_sldx (by decide +kernel) hx fun v559 => ?_
  refine r_callVI mvL_305 (ctX11_count v1 v559) (rcX11_count v1 v559) ⟨_, _, rfl⟩ (as := [vi v559]) (st := []) rfl rfl (by decide +kernel) rfl (Nat.le_of_ble_eq_true rfl) (Nat.le_of_ble_eq_true rfl) fun v560 s => ?_
  refine r_p (pc' := 2963) (p_aload_n 2 (k := 2) (by decide +kernel) rfl) ?_
  refine r_p (pc' := 2964) (p_tload_n 0 (k := 0) (Nat.le_of_ble_eq_true rfl) (by decide +kernel) rfl) ?_
  refine r_p (pc' := 2966) (p_iload 4 (i := 4) (by decide +kernel) rfl) ?_
  refine r_p (pc' := 2967) (p_iconst (n := 1) (v := 1) (by decide +kernel) rfl) ?_
  refine r_p (pc' := 2968) (p_iadd (by decide +kernel)) ?_
  refine r_sldx (by decide +kernel) hx fun v561 => ?_
  refine r_callVI mvL_308 (ctX12_count v2 v561) (rcX12_count v2 v561) ⟨_, _, rfl⟩ (as := [vi v561]) (st := [vi v560]) rfl rfl (by decide +kernel) rfl (Nat.le_of_ble_eq_true rfl) (Nat.le_of_ble_eq_true rfl) fun v562 s => ?_
  refine r_icmpeq (off := 5) (tgt := 2977) (by decide +kernel) (by decide) (fun h563 => ?_) (fun h563 => ?_)
  · refine r_p (pc' := 2980) (p_iinc 4 (i := 4) (n := 6) (x := x) (v := x + 6) (lv' := [(4, vi (x + 6)), (0, vt 999), (1, vr v1), (2, vr v2), (3, vr v3)]) (by decide +kernel) rfl rfl (Nat.le_of_ble_eq_true rfl) rfl) ?_
    refine r_p (pc' := 23) (p_goto (off := -2957) (tgt := 23) (by decide +kernel) (by decide)) ?_
    refine r_sub (lv' := [(0, vt 999), (1, vr v1), (2, vr v2), (3, vr v3), (4, vi (x + 6))]) [1, 2, 3, 4, 0] rfl ?_
    exact hb (x + 6) _
  · refine r_p (pc' := 2976) (p_iconst (n := 0) (v := 0) (by decide +kernel) rfl) ?_
    exact r_iret hk rfl _ rfl rfl (by decide +kernel)
noncomputable def mL_main_L (n0 : Nat) (xs : Nat → Int32) (v1 : Nat) (v2 : Nat) (v3 : Nat) (x : Int32) : MM (Int32 ⊕ (Unit ⊕ Unit)) :=
  if ((Int32.ofNat n0) - 6) < x then (
    mret (.inr (.inl ()))
  ) else (
    mbnd (sld n0 xs x) fun (v6 : Int32) =>
    if (v6 &&& 63) = 0 then (
      mL_main_c0 n0 xs v1 v2 x
    ) else (
      if (v6 &&& 63) = 1 then (
        mL_main_c1 n0 xs v1 v2 x
      ) else (
        if (v6 &&& 63) = 2 then (
          mL_main_c2 v1 v2 v3 x
        ) else (
          if (v6 &&& 63) = 3 then (
            mL_main_c3 v1 v2 v3 x
          ) else (
            if (v6 &&& 63) = 4 then (
              mL_main_c4 v1 v2 x
            ) else (
              if (v6 &&& 63) = 5 then (
                mL_main_c5 n0 xs v1 v2 v3 x
              ) else (
                if (v6 &&& 63) = 6 then (
                  mL_main_c6 n0 xs v1 v2 v3 x
                ) else (
                  if (v6 &&& 63) = 7 then (
                    mL_main_c7 n0 xs v1 v2 v3 x
                  ) else (
                    if (v6 &&& 63) = 8 then (
                      mL_main_c8 n0 xs v1 v2 v3 x
                    ) else (
                      if (v6 &&& 63) = 9 then (
                        mL_main_c9 n0 xs v1 v2 v3 x
                      ) else (
                        if (v6 &&& 63) = 10 then (
                          mL_main_c10 n0 xs v1 v2 v3 x
                        ) else (
                          if (v6 &&& 63) = 11 then (
                            mL_main_c11 n0 xs v1 v2 v3 x
                          ) else (
                            if (v6 &&& 63) = 12 then (
                              mL_main_c12 n0 xs v1 v2 v3 x
                            ) else (
                              if (v6 &&& 63) = 13 then (
                                mL_main_c13 n0 xs v1 v2 v3 x
                              ) else (
                                if (v6 &&& 63) = 14 then (
                                  mL_main_c14 n0 xs v1 v2 v3 x
                                ) else (
                                  if (v6 &&& 63) = 15 then (
                                    mL_main_c15 v1 v2 x
                                  ) else (
                                    if (v6 &&& 63) = 16 then (
                                      mL_main_c16 n0 xs v1 v2 v3 x
                                    ) else (
                                      if (v6 &&& 63) = 17 then (
                                        mL_main_c17 n0 xs v1 v2 x
                                      ) else (
                                        if (v6 &&& 63) = 18 then (
                                          mL_main_c18 n0 xs v1 v2 v3 x
                                        ) else (
                                          if (v6 &&& 63) = 19 then (
                                            mL_main_c19 n0 xs v1 v2 v3 x
                                          ) else (
                                            if (v6 &&& 63) = 20 then (
                                              mL_main_c20 n0 xs v1 v2 v3 x
                                            ) else (
                                              if (v6 &&& 63) = 21 then (
                                                mL_main_c21 v1 v2 x
                                              ) else (
                                                if (v6 &&& 63) = 22 then (
                                                  mL_main_c22 n0 xs v1 v2 v3 x
                                                ) else (
                                                  if (v6 &&& 63) = 23 then (
                                                    mL_main_c23 n0 xs v1 v2 v3 x
                                                  ) else (
                                                    if (v6 &&& 63) = 24 then (
                                                      mL_main_c24 n0 xs v1 v2 v3 x
                                                    ) else (
                                                      if (v6 &&& 63) = 25 then (
                                                        mL_main_c25 n0 xs v1 v2 v3 x
                                                      ) else (
                                                        if (v6 &&& 63) = 26 then (
                                                          mL_main_c26 n0 xs v1 v2 x
                                                        ) else (
                                                          if (v6 &&& 63) = 27 then (
                                                            mL_main_c27 n0 xs v1 v2 v3 x
                                                          ) else (
                                                            if (v6 &&& 63) = 28 then (
                                                              mL_main_c28 n0 xs v1 v2 v3 x
                                                            ) else (
                                                              if (v6 &&& 63) = 29 then (
                                                                mL_main_c29 n0 xs v1 v2 v3 x
                                                              ) else (
                                                                if (v6 &&& 63) = 30 then (
                                                                  mL_main_c30 v1 v2 x
                                                                ) else (
                                                                  if (v6 &&& 63) = 31 then (
                                                                    mL_main_c31 n0 xs v1 v2 v3 x
                                                                  ) else (
                                                                    if (v6 &&& 63) = 32 then (
                                                                      mL_main_c32 n0 xs v1 v2 v3 x
                                                                    ) else (
                                                                      if (v6 &&& 63) = 33 then (
                                                                        mL_main_c33 v1 v2 x
                                                                      ) else (
                                                                        if (v6 &&& 63) = 34 then (
                                                                          mL_main_c34 n0 xs v1 v2 v3 x
                                                                        ) else (
                                                                          if (v6 &&& 63) = 35 then (
                                                                            mL_main_c35 n0 xs v1 v2 v3 x
                                                                          ) else (
                                                                            if (v6 &&& 63) = 36 then (
                                                                              mL_main_c36 n0 xs v1 v2 v3 x
                                                                            ) else (
                                                                              if (v6 &&& 63) = 37 then (
                                                                                mL_main_c37 n0 xs v1 v2 v3 x
                                                                              ) else (
                                                                                if (v6 &&& 63) = 38 then (
                                                                                  mL_main_c38 n0 xs v1 v2 v3 x
                                                                                ) else (
                                                                                  if (v6 &&& 63) = 39 then (
                                                                                    mL_main_c39 n0 xs v1 v2 v3 x
                                                                                  ) else (
                                                                                    if (v6 &&& 63) = 40 then (
                                                                                      mL_main_c40 n0 xs v1 v2 v3 x
                                                                                    ) else (
                                                                                      if (v6 &&& 63) = 41 then (
                                                                                        mL_main_c41 n0 xs v1 v2 v3 x
                                                                                      ) else (
                                                                                        if (v6 &&& 63) = 42 then (
                                                                                          mL_main_c42 n0 xs v1 v2 v3 x
                                                                                        ) else (
                                                                                          if (v6 &&& 63) = 43 then (
                                                                                            mL_main_c43 n0 xs v1 v2 x
                                                                                          ) else (
                                                                                            if (v6 &&& 63) = 44 then (
                                                                                              mL_main_c44 v1 v2 x
                                                                                            ) else (
                                                                                              if (v6 &&& 63) = 45 then (
                                                                                                mL_main_c45 v1 v2 x
                                                                                              ) else (
                                                                                                if (v6 &&& 63) = 46 then (
                                                                                                  mL_main_c46 v1 v2 x
                                                                                                ) else (
                                                                                                  if (v6 &&& 63) = 47 then (
                                                                                                    mL_main_c47 n0 xs v1 v2 x
                                                                                                  ) else (
                                                                                                    mret (.inl (x + 6))
                                                                                                  )
                                                                                                )
                                                                                              )
                                                                                            )
                                                                                          )
                                                                                        )
                                                                                      )
                                                                                    )
                                                                                  )
                                                                                )
                                                                              )
                                                                            )
                                                                          )
                                                                        )
                                                                      )
                                                                    )
                                                                  )
                                                                )
                                                              )
                                                            )
                                                          )
                                                        )
                                                      )
                                                    )
                                                  )
                                                )
                                              )
                                            )
                                          )
                                        )
                                      )
                                    )
                                  )
                                )
                              )
                            )
                          )
                        )
                      )
                    )
                  )
                )
              )
            )
          )
        )
      )
    )
  )
set_option maxHeartbeats 4000000 in
set_option maxRecDepth 100000 in
theorem rmL_main_L (n0 : Nat) (xs : Nat → Int32) (v1 : Nat) (v2 : Nat) (v3 : Nat) (Y : DyA) (hx : wX (yW Y) = xs ∧ wL (yW Y) = n0) (K : Int32 ⊕ (Unit ⊕ Unit) → MM Int32) (hb : ∀ (x : Int32) (s : aS), Rr aL_main Y 23 [(0, vt 999), (1, vr v1), (2, vr v2), (3, vr v3), (4, vi x)] [] (mret (.inl x) : MM (Int32 ⊕ (Unit ⊕ Unit))) K rI s) (hk : K (.inr (.inr ())) = mret 0) (hk1 : K (.inr (.inl ())) = mret 1) (x : Int32) (s : aS) : Rr aL_main Y 23 [(0, vt 999), (1, vr v1), (2, vr v2), (3, vr v3), (4, vi x)] [] (mL_main_L n0 xs v1 v2 v3 x) K rI s := by
  unfold mL_main_L
  refine r_p (pc' := 25) (p_iload 4 (i := 4) (by decide +kernel) rfl) ?_
  refine r_p (pc' := 26) (p_tload_n 0 (k := 0) (Nat.le_of_ble_eq_true rfl) (by decide +kernel) rfl) ?_
  refine r_slenx (by decide +kernel) hx ?_
  refine r_p (pc' := 29) (p_bipush (n := 6) (v := 6) (by decide +kernel) (by decide +kernel)) ?_
  refine r_p (pc' := 30) (p_isub (by decide +kernel)) ?_
  refine r_icmpgt (off := 2953) (tgt := 2983) (by decide +kernel) (by decide) (fun h5 => ?_) (fun h5 => ?_)
  · refine r_p (pc' := 2984) (p_iconst (n := 1) (v := 1) (by decide +kernel) rfl) ?_
    exact r_iret hk1 rfl _ rfl rfl (by decide +kernel)
  · refine r_p (pc' := 34) (p_tload_n 0 (k := 0) (Nat.le_of_ble_eq_true rfl) (by decide +kernel) rfl) ?_
    refine r_p (pc' := 36) (p_iload 4 (i := 4) (by decide +kernel) rfl) ?_
    refine r_sldx (by decide +kernel) hx fun v6 => ?_
    refine r_p (pc' := 39) (p_bipush (n := 63) (v := 63) (by decide +kernel) (by decide +kernel)) ?_
    refine r_p (pc' := 40) (p_iand (by decide +kernel)) ?_
    refine r_tcase (fun h7 => ?_) (fun h7 => ?_)
    · refine r_tsin (tgt := 248) (lo := 0) (hi := 47) (dflt := 2937) (offs := #[208, 281, 306, 350, 394, 407, 475, 543, 627, 695, 787, 867, 935, 991, 1082, 1138, 1151, 1231, 1272, 1356, 1412, 1468, 1481, 1577, 1633, 1717, 1785, 1810, 1878, 1974, 2046, 2059, 2134, 2209, 2222, 2290, 2346, 2430, 2522, 2602, 2658, 2726, 2794, 2850, 2875, 2888, 2899, 2912]) (len := 208) (off := 208) (by decide +kernel) (by rw [h7]; decide) (by rw [h7]; decide) (by rw [h7]; rfl) (by decide) ?_
      exact rmL_main_c0 n0 xs v1 v2 v3 x v6 Y hx K hb hk hk1 _
    · refine r_tcase (fun h21 => ?_) (fun h21 => ?_)
      · refine r_tsin (tgt := 321) (lo := 0) (hi := 47) (dflt := 2937) (offs := #[208, 281, 306, 350, 394, 407, 475, 543, 627, 695, 787, 867, 935, 991, 1082, 1138, 1151, 1231, 1272, 1356, 1412, 1468, 1481, 1577, 1633, 1717, 1785, 1810, 1878, 1974, 2046, 2059, 2134, 2209, 2222, 2290, 2346, 2430, 2522, 2602, 2658, 2726, 2794, 2850, 2875, 2888, 2899, 2912]) (len := 208) (off := 281) (by decide +kernel) (by rw [h21]; decide) (by rw [h21]; decide) (by rw [h21]; rfl) (by decide) ?_
        exact rmL_main_c1 n0 xs v1 v2 v3 x v6 Y hx K hb hk hk1 _
      · refine r_tcase (fun h27 => ?_) (fun h27 => ?_)
        · refine r_tsin (tgt := 346) (lo := 0) (hi := 47) (dflt := 2937) (offs := #[208, 281, 306, 350, 394, 407, 475, 543, 627, 695, 787, 867, 935, 991, 1082, 1138, 1151, 1231, 1272, 1356, 1412, 1468, 1481, 1577, 1633, 1717, 1785, 1810, 1878, 1974, 2046, 2059, 2134, 2209, 2222, 2290, 2346, 2430, 2522, 2602, 2658, 2726, 2794, 2850, 2875, 2888, 2899, 2912]) (len := 208) (off := 306) (by decide +kernel) (by rw [h27]; decide) (by rw [h27]; decide) (by rw [h27]; rfl) (by decide) ?_
          exact rmL_main_c2 n0 xs v1 v2 v3 x v6 Y hx K hb hk hk1 _
        · refine r_tcase (fun h35 => ?_) (fun h35 => ?_)
          · refine r_tsin (tgt := 390) (lo := 0) (hi := 47) (dflt := 2937) (offs := #[208, 281, 306, 350, 394, 407, 475, 543, 627, 695, 787, 867, 935, 991, 1082, 1138, 1151, 1231, 1272, 1356, 1412, 1468, 1481, 1577, 1633, 1717, 1785, 1810, 1878, 1974, 2046, 2059, 2134, 2209, 2222, 2290, 2346, 2430, 2522, 2602, 2658, 2726, 2794, 2850, 2875, 2888, 2899, 2912]) (len := 208) (off := 350) (by decide +kernel) (by rw [h35]; decide) (by rw [h35]; decide) (by rw [h35]; rfl) (by decide) ?_
            exact rmL_main_c3 n0 xs v1 v2 v3 x v6 Y hx K hb hk hk1 _
          · refine r_tcase (fun h43 => ?_) (fun h43 => ?_)
            · refine r_tsin (tgt := 434) (lo := 0) (hi := 47) (dflt := 2937) (offs := #[208, 281, 306, 350, 394, 407, 475, 543, 627, 695, 787, 867, 935, 991, 1082, 1138, 1151, 1231, 1272, 1356, 1412, 1468, 1481, 1577, 1633, 1717, 1785, 1810, 1878, 1974, 2046, 2059, 2134, 2209, 2222, 2290, 2346, 2430, 2522, 2602, 2658, 2726, 2794, 2850, 2875, 2888, 2899, 2912]) (len := 208) (off := 394) (by decide +kernel) (by rw [h43]; decide) (by rw [h43]; decide) (by rw [h43]; rfl) (by decide) ?_
              exact rmL_main_c4 n0 xs v1 v2 v3 x v6 Y hx K hb hk hk1 _
            · refine r_tcase (fun h47 => ?_) (fun h47 => ?_)
              · refine r_tsin (tgt := 447) (lo := 0) (hi := 47) (dflt := 2937) (offs := #[208, 281, 306, 350, 394, 407, 475, 543, 627, 695, 787, 867, 935, 991, 1082, 1138, 1151, 1231, 1272, 1356, 1412, 1468, 1481, 1577, 1633, 1717, 1785, 1810, 1878, 1974, 2046, 2059, 2134, 2209, 2222, 2290, 2346, 2430, 2522, 2602, 2658, 2726, 2794, 2850, 2875, 2888, 2899, 2912]) (len := 208) (off := 407) (by decide +kernel) (by rw [h47]; decide) (by rw [h47]; decide) (by rw [h47]; rfl) (by decide) ?_
                exact rmL_main_c5 n0 xs v1 v2 v3 x v6 Y hx K hb hk hk1 _
              · refine r_tcase (fun h59 => ?_) (fun h59 => ?_)
                · refine r_tsin (tgt := 515) (lo := 0) (hi := 47) (dflt := 2937) (offs := #[208, 281, 306, 350, 394, 407, 475, 543, 627, 695, 787, 867, 935, 991, 1082, 1138, 1151, 1231, 1272, 1356, 1412, 1468, 1481, 1577, 1633, 1717, 1785, 1810, 1878, 1974, 2046, 2059, 2134, 2209, 2222, 2290, 2346, 2430, 2522, 2602, 2658, 2726, 2794, 2850, 2875, 2888, 2899, 2912]) (len := 208) (off := 475) (by decide +kernel) (by rw [h59]; decide) (by rw [h59]; decide) (by rw [h59]; rfl) (by decide) ?_
                  exact rmL_main_c6 n0 xs v1 v2 v3 x v6 Y hx K hb hk hk1 _
                · refine r_tcase (fun h71 => ?_) (fun h71 => ?_)
                  · refine r_tsin (tgt := 583) (lo := 0) (hi := 47) (dflt := 2937) (offs := #[208, 281, 306, 350, 394, 407, 475, 543, 627, 695, 787, 867, 935, 991, 1082, 1138, 1151, 1231, 1272, 1356, 1412, 1468, 1481, 1577, 1633, 1717, 1785, 1810, 1878, 1974, 2046, 2059, 2134, 2209, 2222, 2290, 2346, 2430, 2522, 2602, 2658, 2726, 2794, 2850, 2875, 2888, 2899, 2912]) (len := 208) (off := 543) (by decide +kernel) (by rw [h71]; decide) (by rw [h71]; decide) (by rw [h71]; rfl) (by decide) ?_
                    exact rmL_main_c7 n0 xs v1 v2 v3 x v6 Y hx K hb hk hk1 _
                  · refine r_tcase (fun h91 => ?_) (fun h91 => ?_)
                    · refine r_tsin (tgt := 667) (lo := 0) (hi := 47) (dflt := 2937) (offs := #[208, 281, 306, 350, 394, 407, 475, 543, 627, 695, 787, 867, 935, 991, 1082, 1138, 1151, 1231, 1272, 1356, 1412, 1468, 1481, 1577, 1633, 1717, 1785, 1810, 1878, 1974, 2046, 2059, 2134, 2209, 2222, 2290, 2346, 2430, 2522, 2602, 2658, 2726, 2794, 2850, 2875, 2888, 2899, 2912]) (len := 208) (off := 627) (by decide +kernel) (by rw [h91]; decide) (by rw [h91]; decide) (by rw [h91]; rfl) (by decide) ?_
                      exact rmL_main_c8 n0 xs v1 v2 v3 x v6 Y hx K hb hk hk1 _
                    · refine r_tcase (fun h103 => ?_) (fun h103 => ?_)
                      · refine r_tsin (tgt := 735) (lo := 0) (hi := 47) (dflt := 2937) (offs := #[208, 281, 306, 350, 394, 407, 475, 543, 627, 695, 787, 867, 935, 991, 1082, 1138, 1151, 1231, 1272, 1356, 1412, 1468, 1481, 1577, 1633, 1717, 1785, 1810, 1878, 1974, 2046, 2059, 2134, 2209, 2222, 2290, 2346, 2430, 2522, 2602, 2658, 2726, 2794, 2850, 2875, 2888, 2899, 2912]) (len := 208) (off := 695) (by decide +kernel) (by rw [h103]; decide) (by rw [h103]; decide) (by rw [h103]; rfl) (by decide) ?_
                        exact rmL_main_c9 n0 xs v1 v2 v3 x v6 Y hx K hb hk hk1 _
                      · refine r_tcase (fun h119 => ?_) (fun h119 => ?_)
                        · refine r_tsin (tgt := 827) (lo := 0) (hi := 47) (dflt := 2937) (offs := #[208, 281, 306, 350, 394, 407, 475, 543, 627, 695, 787, 867, 935, 991, 1082, 1138, 1151, 1231, 1272, 1356, 1412, 1468, 1481, 1577, 1633, 1717, 1785, 1810, 1878, 1974, 2046, 2059, 2134, 2209, 2222, 2290, 2346, 2430, 2522, 2602, 2658, 2726, 2794, 2850, 2875, 2888, 2899, 2912]) (len := 208) (off := 787) (by decide +kernel) (by rw [h119]; decide) (by rw [h119]; decide) (by rw [h119]; rfl) (by decide) ?_
                          exact rmL_main_c10 n0 xs v1 v2 v3 x v6 Y hx K hb hk hk1 _
                        · refine r_tcase (fun h133 => ?_) (fun h133 => ?_)
                          · refine r_tsin (tgt := 907) (lo := 0) (hi := 47) (dflt := 2937) (offs := #[208, 281, 306, 350, 394, 407, 475, 543, 627, 695, 787, 867, 935, 991, 1082, 1138, 1151, 1231, 1272, 1356, 1412, 1468, 1481, 1577, 1633, 1717, 1785, 1810, 1878, 1974, 2046, 2059, 2134, 2209, 2222, 2290, 2346, 2430, 2522, 2602, 2658, 2726, 2794, 2850, 2875, 2888, 2899, 2912]) (len := 208) (off := 867) (by decide +kernel) (by rw [h133]; decide) (by rw [h133]; decide) (by rw [h133]; rfl) (by decide) ?_
                            exact rmL_main_c11 n0 xs v1 v2 v3 x v6 Y hx K hb hk hk1 _
                          · refine r_tcase (fun h145 => ?_) (fun h145 => ?_)
                            · refine r_tsin (tgt := 975) (lo := 0) (hi := 47) (dflt := 2937) (offs := #[208, 281, 306, 350, 394, 407, 475, 543, 627, 695, 787, 867, 935, 991, 1082, 1138, 1151, 1231, 1272, 1356, 1412, 1468, 1481, 1577, 1633, 1717, 1785, 1810, 1878, 1974, 2046, 2059, 2134, 2209, 2222, 2290, 2346, 2430, 2522, 2602, 2658, 2726, 2794, 2850, 2875, 2888, 2899, 2912]) (len := 208) (off := 935) (by decide +kernel) (by rw [h145]; decide) (by rw [h145]; decide) (by rw [h145]; rfl) (by decide) ?_
                              exact rmL_main_c12 n0 xs v1 v2 v3 x v6 Y hx K hb hk hk1 _
                            · refine r_tcase (fun h155 => ?_) (fun h155 => ?_)
                              · refine r_tsin (tgt := 1031) (lo := 0) (hi := 47) (dflt := 2937) (offs := #[208, 281, 306, 350, 394, 407, 475, 543, 627, 695, 787, 867, 935, 991, 1082, 1138, 1151, 1231, 1272, 1356, 1412, 1468, 1481, 1577, 1633, 1717, 1785, 1810, 1878, 1974, 2046, 2059, 2134, 2209, 2222, 2290, 2346, 2430, 2522, 2602, 2658, 2726, 2794, 2850, 2875, 2888, 2899, 2912]) (len := 208) (off := 991) (by decide +kernel) (by rw [h155]; decide) (by rw [h155]; decide) (by rw [h155]; rfl) (by decide) ?_
                                exact rmL_main_c13 n0 xs v1 v2 v3 x v6 Y hx K hb hk hk1 _
                              · refine r_tcase (fun h179 => ?_) (fun h179 => ?_)
                                · refine r_tsin (tgt := 1122) (lo := 0) (hi := 47) (dflt := 2937) (offs := #[208, 281, 306, 350, 394, 407, 475, 543, 627, 695, 787, 867, 935, 991, 1082, 1138, 1151, 1231, 1272, 1356, 1412, 1468, 1481, 1577, 1633, 1717, 1785, 1810, 1878, 1974, 2046, 2059, 2134, 2209, 2222, 2290, 2346, 2430, 2522, 2602, 2658, 2726, 2794, 2850, 2875, 2888, 2899, 2912]) (len := 208) (off := 1082) (by decide +kernel) (by rw [h179]; decide) (by rw [h179]; decide) (by rw [h179]; rfl) (by decide) ?_
                                  exact rmL_main_c14 n0 xs v1 v2 v3 x v6 Y hx K hb hk hk1 _
                                · refine r_tcase (fun h189 => ?_) (fun h189 => ?_)
                                  · refine r_tsin (tgt := 1178) (lo := 0) (hi := 47) (dflt := 2937) (offs := #[208, 281, 306, 350, 394, 407, 475, 543, 627, 695, 787, 867, 935, 991, 1082, 1138, 1151, 1231, 1272, 1356, 1412, 1468, 1481, 1577, 1633, 1717, 1785, 1810, 1878, 1974, 2046, 2059, 2134, 2209, 2222, 2290, 2346, 2430, 2522, 2602, 2658, 2726, 2794, 2850, 2875, 2888, 2899, 2912]) (len := 208) (off := 1138) (by decide +kernel) (by rw [h189]; decide) (by rw [h189]; decide) (by rw [h189]; rfl) (by decide) ?_
                                    exact rmL_main_c15 n0 xs v1 v2 v3 x v6 Y hx K hb hk hk1 _
                                  · refine r_tcase (fun h193 => ?_) (fun h193 => ?_)
                                    · refine r_tsin (tgt := 1191) (lo := 0) (hi := 47) (dflt := 2937) (offs := #[208, 281, 306, 350, 394, 407, 475, 543, 627, 695, 787, 867, 935, 991, 1082, 1138, 1151, 1231, 1272, 1356, 1412, 1468, 1481, 1577, 1633, 1717, 1785, 1810, 1878, 1974, 2046, 2059, 2134, 2209, 2222, 2290, 2346, 2430, 2522, 2602, 2658, 2726, 2794, 2850, 2875, 2888, 2899, 2912]) (len := 208) (off := 1151) (by decide +kernel) (by rw [h193]; decide) (by rw [h193]; decide) (by rw [h193]; rfl) (by decide) ?_
                                      exact rmL_main_c16 n0 xs v1 v2 v3 x v6 Y hx K hb hk hk1 _
                                    · refine r_tcase (fun h207 => ?_) (fun h207 => ?_)
                                      · refine r_tsin (tgt := 1271) (lo := 0) (hi := 47) (dflt := 2937) (offs := #[208, 281, 306, 350, 394, 407, 475, 543, 627, 695, 787, 867, 935, 991, 1082, 1138, 1151, 1231, 1272, 1356, 1412, 1468, 1481, 1577, 1633, 1717, 1785, 1810, 1878, 1974, 2046, 2059, 2134, 2209, 2222, 2290, 2346, 2430, 2522, 2602, 2658, 2726, 2794, 2850, 2875, 2888, 2899, 2912]) (len := 208) (off := 1231) (by decide +kernel) (by rw [h207]; decide) (by rw [h207]; decide) (by rw [h207]; rfl) (by decide) ?_
                                        exact rmL_main_c17 n0 xs v1 v2 v3 x v6 Y hx K hb hk hk1 _
                                      · refine r_tcase (fun h221 => ?_) (fun h221 => ?_)
                                        · refine r_tsin (tgt := 1312) (lo := 0) (hi := 47) (dflt := 2937) (offs := #[208, 281, 306, 350, 394, 407, 475, 543, 627, 695, 787, 867, 935, 991, 1082, 1138, 1151, 1231, 1272, 1356, 1412, 1468, 1481, 1577, 1633, 1717, 1785, 1810, 1878, 1974, 2046, 2059, 2134, 2209, 2222, 2290, 2346, 2430, 2522, 2602, 2658, 2726, 2794, 2850, 2875, 2888, 2899, 2912]) (len := 208) (off := 1272) (by decide +kernel) (by rw [h221]; decide) (by rw [h221]; decide) (by rw [h221]; rfl) (by decide) ?_
                                          exact rmL_main_c18 n0 xs v1 v2 v3 x v6 Y hx K hb hk hk1 _
                                        · refine r_tcase (fun h241 => ?_) (fun h241 => ?_)
                                          · refine r_tsin (tgt := 1396) (lo := 0) (hi := 47) (dflt := 2937) (offs := #[208, 281, 306, 350, 394, 407, 475, 543, 627, 695, 787, 867, 935, 991, 1082, 1138, 1151, 1231, 1272, 1356, 1412, 1468, 1481, 1577, 1633, 1717, 1785, 1810, 1878, 1974, 2046, 2059, 2134, 2209, 2222, 2290, 2346, 2430, 2522, 2602, 2658, 2726, 2794, 2850, 2875, 2888, 2899, 2912]) (len := 208) (off := 1356) (by decide +kernel) (by rw [h241]; decide) (by rw [h241]; decide) (by rw [h241]; rfl) (by decide) ?_
                                            exact rmL_main_c19 n0 xs v1 v2 v3 x v6 Y hx K hb hk hk1 _
                                          · refine r_tcase (fun h251 => ?_) (fun h251 => ?_)
                                            · refine r_tsin (tgt := 1452) (lo := 0) (hi := 47) (dflt := 2937) (offs := #[208, 281, 306, 350, 394, 407, 475, 543, 627, 695, 787, 867, 935, 991, 1082, 1138, 1151, 1231, 1272, 1356, 1412, 1468, 1481, 1577, 1633, 1717, 1785, 1810, 1878, 1974, 2046, 2059, 2134, 2209, 2222, 2290, 2346, 2430, 2522, 2602, 2658, 2726, 2794, 2850, 2875, 2888, 2899, 2912]) (len := 208) (off := 1412) (by decide +kernel) (by rw [h251]; decide) (by rw [h251]; decide) (by rw [h251]; rfl) (by decide) ?_
                                              exact rmL_main_c20 n0 xs v1 v2 v3 x v6 Y hx K hb hk hk1 _
                                            · refine r_tcase (fun h261 => ?_) (fun h261 => ?_)
                                              · refine r_tsin (tgt := 1508) (lo := 0) (hi := 47) (dflt := 2937) (offs := #[208, 281, 306, 350, 394, 407, 475, 543, 627, 695, 787, 867, 935, 991, 1082, 1138, 1151, 1231, 1272, 1356, 1412, 1468, 1481, 1577, 1633, 1717, 1785, 1810, 1878, 1974, 2046, 2059, 2134, 2209, 2222, 2290, 2346, 2430, 2522, 2602, 2658, 2726, 2794, 2850, 2875, 2888, 2899, 2912]) (len := 208) (off := 1468) (by decide +kernel) (by rw [h261]; decide) (by rw [h261]; decide) (by rw [h261]; rfl) (by decide) ?_
                                                exact rmL_main_c21 n0 xs v1 v2 v3 x v6 Y hx K hb hk hk1 _
                                              · refine r_tcase (fun h265 => ?_) (fun h265 => ?_)
                                                · refine r_tsin (tgt := 1521) (lo := 0) (hi := 47) (dflt := 2937) (offs := #[208, 281, 306, 350, 394, 407, 475, 543, 627, 695, 787, 867, 935, 991, 1082, 1138, 1151, 1231, 1272, 1356, 1412, 1468, 1481, 1577, 1633, 1717, 1785, 1810, 1878, 1974, 2046, 2059, 2134, 2209, 2222, 2290, 2346, 2430, 2522, 2602, 2658, 2726, 2794, 2850, 2875, 2888, 2899, 2912]) (len := 208) (off := 1481) (by decide +kernel) (by rw [h265]; decide) (by rw [h265]; decide) (by rw [h265]; rfl) (by decide) ?_
                                                  exact rmL_main_c22 n0 xs v1 v2 v3 x v6 Y hx K hb hk hk1 _
                                                · refine r_tcase (fun h287 => ?_) (fun h287 => ?_)
                                                  · refine r_tsin (tgt := 1617) (lo := 0) (hi := 47) (dflt := 2937) (offs := #[208, 281, 306, 350, 394, 407, 475, 543, 627, 695, 787, 867, 935, 991, 1082, 1138, 1151, 1231, 1272, 1356, 1412, 1468, 1481, 1577, 1633, 1717, 1785, 1810, 1878, 1974, 2046, 2059, 2134, 2209, 2222, 2290, 2346, 2430, 2522, 2602, 2658, 2726, 2794, 2850, 2875, 2888, 2899, 2912]) (len := 208) (off := 1577) (by decide +kernel) (by rw [h287]; decide) (by rw [h287]; decide) (by rw [h287]; rfl) (by decide) ?_
                                                    exact rmL_main_c23 n0 xs v1 v2 v3 x v6 Y hx K hb hk hk1 _
                                                  · refine r_tcase (fun h297 => ?_) (fun h297 => ?_)
                                                    · refine r_tsin (tgt := 1673) (lo := 0) (hi := 47) (dflt := 2937) (offs := #[208, 281, 306, 350, 394, 407, 475, 543, 627, 695, 787, 867, 935, 991, 1082, 1138, 1151, 1231, 1272, 1356, 1412, 1468, 1481, 1577, 1633, 1717, 1785, 1810, 1878, 1974, 2046, 2059, 2134, 2209, 2222, 2290, 2346, 2430, 2522, 2602, 2658, 2726, 2794, 2850, 2875, 2888, 2899, 2912]) (len := 208) (off := 1633) (by decide +kernel) (by rw [h297]; decide) (by rw [h297]; decide) (by rw [h297]; rfl) (by decide) ?_
                                                      exact rmL_main_c24 n0 xs v1 v2 v3 x v6 Y hx K hb hk hk1 _
                                                    · refine r_tcase (fun h317 => ?_) (fun h317 => ?_)
                                                      · refine r_tsin (tgt := 1757) (lo := 0) (hi := 47) (dflt := 2937) (offs := #[208, 281, 306, 350, 394, 407, 475, 543, 627, 695, 787, 867, 935, 991, 1082, 1138, 1151, 1231, 1272, 1356, 1412, 1468, 1481, 1577, 1633, 1717, 1785, 1810, 1878, 1974, 2046, 2059, 2134, 2209, 2222, 2290, 2346, 2430, 2522, 2602, 2658, 2726, 2794, 2850, 2875, 2888, 2899, 2912]) (len := 208) (off := 1717) (by decide +kernel) (by rw [h317]; decide) (by rw [h317]; decide) (by rw [h317]; rfl) (by decide) ?_
                                                        exact rmL_main_c25 n0 xs v1 v2 v3 x v6 Y hx K hb hk hk1 _
                                                      · refine r_tcase (fun h329 => ?_) (fun h329 => ?_)
                                                        · refine r_tsin (tgt := 1825) (lo := 0) (hi := 47) (dflt := 2937) (offs := #[208, 281, 306, 350, 394, 407, 475, 543, 627, 695, 787, 867, 935, 991, 1082, 1138, 1151, 1231, 1272, 1356, 1412, 1468, 1481, 1577, 1633, 1717, 1785, 1810, 1878, 1974, 2046, 2059, 2134, 2209, 2222, 2290, 2346, 2430, 2522, 2602, 2658, 2726, 2794, 2850, 2875, 2888, 2899, 2912]) (len := 208) (off := 1785) (by decide +kernel) (by rw [h329]; decide) (by rw [h329]; decide) (by rw [h329]; rfl) (by decide) ?_
                                                          exact rmL_main_c26 n0 xs v1 v2 v3 x v6 Y hx K hb hk hk1 _
                                                        · refine r_tcase (fun h335 => ?_) (fun h335 => ?_)
                                                          · refine r_tsin (tgt := 1850) (lo := 0) (hi := 47) (dflt := 2937) (offs := #[208, 281, 306, 350, 394, 407, 475, 543, 627, 695, 787, 867, 935, 991, 1082, 1138, 1151, 1231, 1272, 1356, 1412, 1468, 1481, 1577, 1633, 1717, 1785, 1810, 1878, 1974, 2046, 2059, 2134, 2209, 2222, 2290, 2346, 2430, 2522, 2602, 2658, 2726, 2794, 2850, 2875, 2888, 2899, 2912]) (len := 208) (off := 1810) (by decide +kernel) (by rw [h335]; decide) (by rw [h335]; decide) (by rw [h335]; rfl) (by decide) ?_
                                                            exact rmL_main_c27 n0 xs v1 v2 v3 x v6 Y hx K hb hk hk1 _
                                                          · refine r_tcase (fun h347 => ?_) (fun h347 => ?_)
                                                            · refine r_tsin (tgt := 1918) (lo := 0) (hi := 47) (dflt := 2937) (offs := #[208, 281, 306, 350, 394, 407, 475, 543, 627, 695, 787, 867, 935, 991, 1082, 1138, 1151, 1231, 1272, 1356, 1412, 1468, 1481, 1577, 1633, 1717, 1785, 1810, 1878, 1974, 2046, 2059, 2134, 2209, 2222, 2290, 2346, 2430, 2522, 2602, 2658, 2726, 2794, 2850, 2875, 2888, 2899, 2912]) (len := 208) (off := 1878) (by decide +kernel) (by rw [h347]; decide) (by rw [h347]; decide) (by rw [h347]; rfl) (by decide) ?_
                                                              exact rmL_main_c28 n0 xs v1 v2 v3 x v6 Y hx K hb hk hk1 _
                                                            · refine r_tcase (fun h369 => ?_) (fun h369 => ?_)
                                                              · refine r_tsin (tgt := 2014) (lo := 0) (hi := 47) (dflt := 2937) (offs := #[208, 281, 306, 350, 394, 407, 475, 543, 627, 695, 787, 867, 935, 991, 1082, 1138, 1151, 1231, 1272, 1356, 1412, 1468, 1481, 1577, 1633, 1717, 1785, 1810, 1878, 1974, 2046, 2059, 2134, 2209, 2222, 2290, 2346, 2430, 2522, 2602, 2658, 2726, 2794, 2850, 2875, 2888, 2899, 2912]) (len := 208) (off := 1974) (by decide +kernel) (by rw [h369]; decide) (by rw [h369]; decide) (by rw [h369]; rfl) (by decide) ?_
                                                                exact rmL_main_c29 n0 xs v1 v2 v3 x v6 Y hx K hb hk hk1 _
                                                              · refine r_tcase (fun h387 => ?_) (fun h387 => ?_)
                                                                · refine r_tsin (tgt := 2086) (lo := 0) (hi := 47) (dflt := 2937) (offs := #[208, 281, 306, 350, 394, 407, 475, 543, 627, 695, 787, 867, 935, 991, 1082, 1138, 1151, 1231, 1272, 1356, 1412, 1468, 1481, 1577, 1633, 1717, 1785, 1810, 1878, 1974, 2046, 2059, 2134, 2209, 2222, 2290, 2346, 2430, 2522, 2602, 2658, 2726, 2794, 2850, 2875, 2888, 2899, 2912]) (len := 208) (off := 2046) (by decide +kernel) (by rw [h387]; decide) (by rw [h387]; decide) (by rw [h387]; rfl) (by decide) ?_
                                                                  exact rmL_main_c30 n0 xs v1 v2 v3 x v6 Y hx K hb hk hk1 _
                                                                · refine r_tcase (fun h391 => ?_) (fun h391 => ?_)
                                                                  · refine r_tsin (tgt := 2099) (lo := 0) (hi := 47) (dflt := 2937) (offs := #[208, 281, 306, 350, 394, 407, 475, 543, 627, 695, 787, 867, 935, 991, 1082, 1138, 1151, 1231, 1272, 1356, 1412, 1468, 1481, 1577, 1633, 1717, 1785, 1810, 1878, 1974, 2046, 2059, 2134, 2209, 2222, 2290, 2346, 2430, 2522, 2602, 2658, 2726, 2794, 2850, 2875, 2888, 2899, 2912]) (len := 208) (off := 2059) (by decide +kernel) (by rw [h391]; decide) (by rw [h391]; decide) (by rw [h391]; rfl) (by decide) ?_
                                                                    exact rmL_main_c31 n0 xs v1 v2 v3 x v6 Y hx K hb hk hk1 _
                                                                  · refine r_tcase (fun h407 => ?_) (fun h407 => ?_)
                                                                    · refine r_tsin (tgt := 2174) (lo := 0) (hi := 47) (dflt := 2937) (offs := #[208, 281, 306, 350, 394, 407, 475, 543, 627, 695, 787, 867, 935, 991, 1082, 1138, 1151, 1231, 1272, 1356, 1412, 1468, 1481, 1577, 1633, 1717, 1785, 1810, 1878, 1974, 2046, 2059, 2134, 2209, 2222, 2290, 2346, 2430, 2522, 2602, 2658, 2726, 2794, 2850, 2875, 2888, 2899, 2912]) (len := 208) (off := 2134) (by decide +kernel) (by rw [h407]; decide) (by rw [h407]; decide) (by rw [h407]; rfl) (by decide) ?_
                                                                      exact rmL_main_c32 n0 xs v1 v2 v3 x v6 Y hx K hb hk hk1 _
                                                                    · refine r_tcase (fun h423 => ?_) (fun h423 => ?_)
                                                                      · refine r_tsin (tgt := 2249) (lo := 0) (hi := 47) (dflt := 2937) (offs := #[208, 281, 306, 350, 394, 407, 475, 543, 627, 695, 787, 867, 935, 991, 1082, 1138, 1151, 1231, 1272, 1356, 1412, 1468, 1481, 1577, 1633, 1717, 1785, 1810, 1878, 1974, 2046, 2059, 2134, 2209, 2222, 2290, 2346, 2430, 2522, 2602, 2658, 2726, 2794, 2850, 2875, 2888, 2899, 2912]) (len := 208) (off := 2209) (by decide +kernel) (by rw [h423]; decide) (by rw [h423]; decide) (by rw [h423]; rfl) (by decide) ?_
                                                                        exact rmL_main_c33 n0 xs v1 v2 v3 x v6 Y hx K hb hk hk1 _
                                                                      · refine r_tcase (fun h427 => ?_) (fun h427 => ?_)
                                                                        · refine r_tsin (tgt := 2262) (lo := 0) (hi := 47) (dflt := 2937) (offs := #[208, 281, 306, 350, 394, 407, 475, 543, 627, 695, 787, 867, 935, 991, 1082, 1138, 1151, 1231, 1272, 1356, 1412, 1468, 1481, 1577, 1633, 1717, 1785, 1810, 1878, 1974, 2046, 2059, 2134, 2209, 2222, 2290, 2346, 2430, 2522, 2602, 2658, 2726, 2794, 2850, 2875, 2888, 2899, 2912]) (len := 208) (off := 2222) (by decide +kernel) (by rw [h427]; decide) (by rw [h427]; decide) (by rw [h427]; rfl) (by decide) ?_
                                                                          exact rmL_main_c34 n0 xs v1 v2 v3 x v6 Y hx K hb hk hk1 _
                                                                        · refine r_tcase (fun h439 => ?_) (fun h439 => ?_)
                                                                          · refine r_tsin (tgt := 2330) (lo := 0) (hi := 47) (dflt := 2937) (offs := #[208, 281, 306, 350, 394, 407, 475, 543, 627, 695, 787, 867, 935, 991, 1082, 1138, 1151, 1231, 1272, 1356, 1412, 1468, 1481, 1577, 1633, 1717, 1785, 1810, 1878, 1974, 2046, 2059, 2134, 2209, 2222, 2290, 2346, 2430, 2522, 2602, 2658, 2726, 2794, 2850, 2875, 2888, 2899, 2912]) (len := 208) (off := 2290) (by decide +kernel) (by rw [h439]; decide) (by rw [h439]; decide) (by rw [h439]; rfl) (by decide) ?_
                                                                            exact rmL_main_c35 n0 xs v1 v2 v3 x v6 Y hx K hb hk hk1 _
                                                                          · refine r_tcase (fun h449 => ?_) (fun h449 => ?_)
                                                                            · refine r_tsin (tgt := 2386) (lo := 0) (hi := 47) (dflt := 2937) (offs := #[208, 281, 306, 350, 394, 407, 475, 543, 627, 695, 787, 867, 935, 991, 1082, 1138, 1151, 1231, 1272, 1356, 1412, 1468, 1481, 1577, 1633, 1717, 1785, 1810, 1878, 1974, 2046, 2059, 2134, 2209, 2222, 2290, 2346, 2430, 2522, 2602, 2658, 2726, 2794, 2850, 2875, 2888, 2899, 2912]) (len := 208) (off := 2346) (by decide +kernel) (by rw [h449]; decide) (by rw [h449]; decide) (by rw [h449]; rfl) (by decide) ?_
                                                                              exact rmL_main_c36 n0 xs v1 v2 v3 x v6 Y hx K hb hk hk1 _
                                                                            · refine r_tcase (fun h469 => ?_) (fun h469 => ?_)
                                                                              · refine r_tsin (tgt := 2470) (lo := 0) (hi := 47) (dflt := 2937) (offs := #[208, 281, 306, 350, 394, 407, 475, 543, 627, 695, 787, 867, 935, 991, 1082, 1138, 1151, 1231, 1272, 1356, 1412, 1468, 1481, 1577, 1633, 1717, 1785, 1810, 1878, 1974, 2046, 2059, 2134, 2209, 2222, 2290, 2346, 2430, 2522, 2602, 2658, 2726, 2794, 2850, 2875, 2888, 2899, 2912]) (len := 208) (off := 2430) (by decide +kernel) (by rw [h469]; decide) (by rw [h469]; decide) (by rw [h469]; rfl) (by decide) ?_
                                                                                exact rmL_main_c37 n0 xs v1 v2 v3 x v6 Y hx K hb hk hk1 _
                                                                              · refine r_tcase (fun h485 => ?_) (fun h485 => ?_)
                                                                                · refine r_tsin (tgt := 2562) (lo := 0) (hi := 47) (dflt := 2937) (offs := #[208, 281, 306, 350, 394, 407, 475, 543, 627, 695, 787, 867, 935, 991, 1082, 1138, 1151, 1231, 1272, 1356, 1412, 1468, 1481, 1577, 1633, 1717, 1785, 1810, 1878, 1974, 2046, 2059, 2134, 2209, 2222, 2290, 2346, 2430, 2522, 2602, 2658, 2726, 2794, 2850, 2875, 2888, 2899, 2912]) (len := 208) (off := 2522) (by decide +kernel) (by rw [h485]; decide) (by rw [h485]; decide) (by rw [h485]; rfl) (by decide) ?_
                                                                                  exact rmL_main_c38 n0 xs v1 v2 v3 x v6 Y hx K hb hk hk1 _
                                                                                · refine r_tcase (fun h499 => ?_) (fun h499 => ?_)
                                                                                  · refine r_tsin (tgt := 2642) (lo := 0) (hi := 47) (dflt := 2937) (offs := #[208, 281, 306, 350, 394, 407, 475, 543, 627, 695, 787, 867, 935, 991, 1082, 1138, 1151, 1231, 1272, 1356, 1412, 1468, 1481, 1577, 1633, 1717, 1785, 1810, 1878, 1974, 2046, 2059, 2134, 2209, 2222, 2290, 2346, 2430, 2522, 2602, 2658, 2726, 2794, 2850, 2875, 2888, 2899, 2912]) (len := 208) (off := 2602) (by decide +kernel) (by rw [h499]; decide) (by rw [h499]; decide) (by rw [h499]; rfl) (by decide) ?_
                                                                                    exact rmL_main_c39 n0 xs v1 v2 v3 x v6 Y hx K hb hk hk1 _
                                                                                  · refine r_tcase (fun h509 => ?_) (fun h509 => ?_)
                                                                                    · refine r_tsin (tgt := 2698) (lo := 0) (hi := 47) (dflt := 2937) (offs := #[208, 281, 306, 350, 394, 407, 475, 543, 627, 695, 787, 867, 935, 991, 1082, 1138, 1151, 1231, 1272, 1356, 1412, 1468, 1481, 1577, 1633, 1717, 1785, 1810, 1878, 1974, 2046, 2059, 2134, 2209, 2222, 2290, 2346, 2430, 2522, 2602, 2658, 2726, 2794, 2850, 2875, 2888, 2899, 2912]) (len := 208) (off := 2658) (by decide +kernel) (by rw [h509]; decide) (by rw [h509]; decide) (by rw [h509]; rfl) (by decide) ?_
                                                                                      exact rmL_main_c40 n0 xs v1 v2 v3 x v6 Y hx K hb hk hk1 _
                                                                                    · refine r_tcase (fun h521 => ?_) (fun h521 => ?_)
                                                                                      · refine r_tsin (tgt := 2766) (lo := 0) (hi := 47) (dflt := 2937) (offs := #[208, 281, 306, 350, 394, 407, 475, 543, 627, 695, 787, 867, 935, 991, 1082, 1138, 1151, 1231, 1272, 1356, 1412, 1468, 1481, 1577, 1633, 1717, 1785, 1810, 1878, 1974, 2046, 2059, 2134, 2209, 2222, 2290, 2346, 2430, 2522, 2602, 2658, 2726, 2794, 2850, 2875, 2888, 2899, 2912]) (len := 208) (off := 2726) (by decide +kernel) (by rw [h521]; decide) (by rw [h521]; decide) (by rw [h521]; rfl) (by decide) ?_
                                                                                        exact rmL_main_c41 n0 xs v1 v2 v3 x v6 Y hx K hb hk hk1 _
                                                                                      · refine r_tcase (fun h533 => ?_) (fun h533 => ?_)
                                                                                        · refine r_tsin (tgt := 2834) (lo := 0) (hi := 47) (dflt := 2937) (offs := #[208, 281, 306, 350, 394, 407, 475, 543, 627, 695, 787, 867, 935, 991, 1082, 1138, 1151, 1231, 1272, 1356, 1412, 1468, 1481, 1577, 1633, 1717, 1785, 1810, 1878, 1974, 2046, 2059, 2134, 2209, 2222, 2290, 2346, 2430, 2522, 2602, 2658, 2726, 2794, 2850, 2875, 2888, 2899, 2912]) (len := 208) (off := 2794) (by decide +kernel) (by rw [h533]; decide) (by rw [h533]; decide) (by rw [h533]; rfl) (by decide) ?_
                                                                                          exact rmL_main_c42 n0 xs v1 v2 v3 x v6 Y hx K hb hk hk1 _
                                                                                        · refine r_tcase (fun h543 => ?_) (fun h543 => ?_)
                                                                                          · refine r_tsin (tgt := 2890) (lo := 0) (hi := 47) (dflt := 2937) (offs := #[208, 281, 306, 350, 394, 407, 475, 543, 627, 695, 787, 867, 935, 991, 1082, 1138, 1151, 1231, 1272, 1356, 1412, 1468, 1481, 1577, 1633, 1717, 1785, 1810, 1878, 1974, 2046, 2059, 2134, 2209, 2222, 2290, 2346, 2430, 2522, 2602, 2658, 2726, 2794, 2850, 2875, 2888, 2899, 2912]) (len := 208) (off := 2850) (by decide +kernel) (by rw [h543]; decide) (by rw [h543]; decide) (by rw [h543]; rfl) (by decide) ?_
                                                                                            exact rmL_main_c43 n0 xs v1 v2 v3 x v6 Y hx K hb hk hk1 _
                                                                                          · refine r_tcase (fun h549 => ?_) (fun h549 => ?_)
                                                                                            · refine r_tsin (tgt := 2915) (lo := 0) (hi := 47) (dflt := 2937) (offs := #[208, 281, 306, 350, 394, 407, 475, 543, 627, 695, 787, 867, 935, 991, 1082, 1138, 1151, 1231, 1272, 1356, 1412, 1468, 1481, 1577, 1633, 1717, 1785, 1810, 1878, 1974, 2046, 2059, 2134, 2209, 2222, 2290, 2346, 2430, 2522, 2602, 2658, 2726, 2794, 2850, 2875, 2888, 2899, 2912]) (len := 208) (off := 2875) (by decide +kernel) (by rw [h549]; decide) (by rw [h549]; decide) (by rw [h549]; rfl) (by decide) ?_
                                                                                              exact rmL_main_c44 n0 xs v1 v2 v3 x v6 Y hx K hb hk hk1 _
                                                                                            · refine r_tcase (fun h553 => ?_) (fun h553 => ?_)
                                                                                              · refine r_tsin (tgt := 2928) (lo := 0) (hi := 47) (dflt := 2937) (offs := #[208, 281, 306, 350, 394, 407, 475, 543, 627, 695, 787, 867, 935, 991, 1082, 1138, 1151, 1231, 1272, 1356, 1412, 1468, 1481, 1577, 1633, 1717, 1785, 1810, 1878, 1974, 2046, 2059, 2134, 2209, 2222, 2290, 2346, 2430, 2522, 2602, 2658, 2726, 2794, 2850, 2875, 2888, 2899, 2912]) (len := 208) (off := 2888) (by decide +kernel) (by rw [h553]; decide) (by rw [h553]; decide) (by rw [h553]; rfl) (by decide) ?_
                                                                                                exact rmL_main_c45 n0 xs v1 v2 v3 x v6 Y hx K hb hk hk1 _
                                                                                              · refine r_tcase (fun h554 => ?_) (fun h554 => ?_)
                                                                                                · refine r_tsin (tgt := 2939) (lo := 0) (hi := 47) (dflt := 2937) (offs := #[208, 281, 306, 350, 394, 407, 475, 543, 627, 695, 787, 867, 935, 991, 1082, 1138, 1151, 1231, 1272, 1356, 1412, 1468, 1481, 1577, 1633, 1717, 1785, 1810, 1878, 1974, 2046, 2059, 2134, 2209, 2222, 2290, 2346, 2430, 2522, 2602, 2658, 2726, 2794, 2850, 2875, 2888, 2899, 2912]) (len := 208) (off := 2899) (by decide +kernel) (by rw [h554]; decide) (by rw [h554]; decide) (by rw [h554]; rfl) (by decide) ?_
                                                                                                  exact rmL_main_c46 n0 xs v1 v2 v3 x v6 Y hx K hb hk hk1 _
                                                                                                · refine r_tcase (fun h558 => ?_) (fun h558 => ?_)
                                                                                                  · refine r_tsin (tgt := 2952) (lo := 0) (hi := 47) (dflt := 2937) (offs := #[208, 281, 306, 350, 394, 407, 475, 543, 627, 695, 787, 867, 935, 991, 1082, 1138, 1151, 1231, 1272, 1356, 1412, 1468, 1481, 1577, 1633, 1717, 1785, 1810, 1878, 1974, 2046, 2059, 2134, 2209, 2222, 2290, 2346, 2430, 2522, 2602, 2658, 2726, 2794, 2850, 2875, 2888, 2899, 2912]) (len := 208) (off := 2912) (by decide +kernel) (by rw [h558]; decide) (by rw [h558]; decide) (by rw [h558]; rfl) (by decide) ?_
                                                                                                    exact rmL_main_c47 n0 xs v1 v2 v3 x v6 Y hx K hb hk hk1 _
                                                                                                  · have h7i := lv_neT (a := 0) h7 rfl
                                                                                                    have h21i := lv_neT (a := 1) h21 rfl
                                                                                                    have h27i := lv_neT (a := 2) h27 rfl
                                                                                                    have h35i := lv_neT (a := 3) h35 rfl
                                                                                                    have h43i := lv_neT (a := 4) h43 rfl
                                                                                                    have h47i := lv_neT (a := 5) h47 rfl
                                                                                                    have h59i := lv_neT (a := 6) h59 rfl
                                                                                                    have h71i := lv_neT (a := 7) h71 rfl
                                                                                                    have h91i := lv_neT (a := 8) h91 rfl
                                                                                                    have h103i := lv_neT (a := 9) h103 rfl
                                                                                                    have h119i := lv_neT (a := 10) h119 rfl
                                                                                                    have h133i := lv_neT (a := 11) h133 rfl
                                                                                                    have h145i := lv_neT (a := 12) h145 rfl
                                                                                                    have h155i := lv_neT (a := 13) h155 rfl
                                                                                                    have h179i := lv_neT (a := 14) h179 rfl
                                                                                                    have h189i := lv_neT (a := 15) h189 rfl
                                                                                                    have h193i := lv_neT (a := 16) h193 rfl
                                                                                                    have h207i := lv_neT (a := 17) h207 rfl
                                                                                                    have h221i := lv_neT (a := 18) h221 rfl
                                                                                                    have h241i := lv_neT (a := 19) h241 rfl
                                                                                                    have h251i := lv_neT (a := 20) h251 rfl
                                                                                                    have h261i := lv_neT (a := 21) h261 rfl
                                                                                                    have h265i := lv_neT (a := 22) h265 rfl
                                                                                                    have h287i := lv_neT (a := 23) h287 rfl
                                                                                                    have h297i := lv_neT (a := 24) h297 rfl
                                                                                                    have h317i := lv_neT (a := 25) h317 rfl
                                                                                                    have h329i := lv_neT (a := 26) h329 rfl
                                                                                                    have h335i := lv_neT (a := 27) h335 rfl
                                                                                                    have h347i := lv_neT (a := 28) h347 rfl
                                                                                                    have h369i := lv_neT (a := 29) h369 rfl
                                                                                                    have h387i := lv_neT (a := 30) h387 rfl
                                                                                                    have h391i := lv_neT (a := 31) h391 rfl
                                                                                                    have h407i := lv_neT (a := 32) h407 rfl
                                                                                                    have h423i := lv_neT (a := 33) h423 rfl
                                                                                                    have h427i := lv_neT (a := 34) h427 rfl
                                                                                                    have h439i := lv_neT (a := 35) h439 rfl
                                                                                                    have h449i := lv_neT (a := 36) h449 rfl
                                                                                                    have h469i := lv_neT (a := 37) h469 rfl
                                                                                                    have h485i := lv_neT (a := 38) h485 rfl
                                                                                                    have h499i := lv_neT (a := 39) h499 rfl
                                                                                                    have h509i := lv_neT (a := 40) h509 rfl
                                                                                                    have h521i := lv_neT (a := 41) h521 rfl
                                                                                                    have h533i := lv_neT (a := 42) h533 rfl
                                                                                                    have h543i := lv_neT (a := 43) h543 rfl
                                                                                                    have h549i := lv_neT (a := 44) h549 rfl
                                                                                                    have h553i := lv_neT (a := 45) h553 rfl
                                                                                                    have h554i := lv_neT (a := 46) h554 rfl
                                                                                                    have h558i := lv_neT (a := 47) h558 rfl
                                                                                                    refine r_tsout (tgt := 2977) (lo := 0) (hi := 47) (dflt := 2937) (offs := #[208, 281, 306, 350, 394, 407, 475, 543, 627, 695, 787, 867, 935, 991, 1082, 1138, 1151, 1231, 1272, 1356, 1412, 1468, 1481, 1577, 1633, 1717, 1785, 1810, 1878, 1974, 2046, 2059, 2134, 2209, 2222, 2290, 2346, 2430, 2522, 2602, 2658, 2726, 2794, 2850, 2875, 2888, 2899, 2912]) (len := 208) (by decide +kernel) (by omega) (by decide) ?_
                                                                                                    refine r_p (pc' := 2980) (p_iinc 4 (i := 4) (n := 6) (x := x) (v := x + 6) (lv' := [(4, vi (x + 6)), (0, vt 999), (1, vr v1), (2, vr v2), (3, vr v3)]) (by decide +kernel) rfl rfl (Nat.le_of_ble_eq_true rfl) rfl) ?_
                                                                                                    refine r_p (pc' := 23) (p_goto (off := -2957) (tgt := 23) (by decide +kernel) (by decide)) ?_
                                                                                                    refine r_sub (lv' := [(0, vt 999), (1, vr v1), (2, vr v2), (3, vr v3), (4, vi (x + 6))]) [1, 2, 3, 4, 0] rfl ?_
                                                                                                    exact hb (x + 6) _
noncomputable def mL_main (n0 : Nat) (xs : Nat → Int32) : MM Int32 :=
  mbnd (nw 10 10 [.null, .null, .null, .null, .null, .null, .null, .null, .null, .int 0]) fun (v1 : Nat) =>
  mbnd (nox (mX11_init v1)) fun _ =>
  mbnd (nw 11 27 [.int 0, .null, .null, .null, .null, .null, .int 0, .int 0, .null, .int 0, .int 0, .int 0, .int 0, .int 0, .int 0, .null, .int 0, .null, .int 0, .int 0, .int 0, .null, .null, .int 0, .int 0, .null, .null]) fun (v2 : Nat) =>
  mbnd (nox (mX12_init v2)) fun _ =>
  mbnd (nwL 1) fun (v3 : Nat) =>
  mbnd (loopM (mL_main_L n0 xs v1 v2 v3) 0) fun (e : Unit ⊕ Unit) => match e with
    | .inl _ => mret 1
    | .inr _ => mret 0
set_option maxHeartbeats 4000000 in
set_option maxRecDepth 100000 in
theorem rL_main (n0 : Nat) (xs : Nat → Int32) (Y : DyA) (hx : wX (yW Y) = xs ∧ wL (yW Y) = n0) (s : aS) : Rr aL_main Y 0 [(0, vt 999)] [] (mL_main n0 xs) mret rI s := by
  unfold mL_main
  refine r_nw nwL_8 (by decide +kernel) fun v1 s => ?_
  refine r_p (pc' := 4) (p_dup rfl (by decide +kernel)) ?_
  refine r_callIU miL_131 (ctX11_init v1) (as := []) (st := [vr v1]) rfl rfl (by decide +kernel) rfl (Nat.le_of_ble_eq_true rfl) (Nat.le_of_ble_eq_true rfl) fun s => ?_
  refine r_p (pc' := 8) (p_astore_n (k := 1) (lv' := [(1, vr v1), (0, vt 999)]) (by decide +kernel) (Nat.le_of_ble_eq_true rfl) rfl) ?_
  refine r_nw nwL_132 (by decide +kernel) fun v2 s => ?_
  refine r_p (pc' := 12) (p_dup rfl (by decide +kernel)) ?_
  refine r_callIU miL_134 (ctX12_init v2) (as := []) (st := [vr v2]) rfl rfl (by decide +kernel) rfl (Nat.le_of_ble_eq_true rfl) (Nat.le_of_ble_eq_true rfl) fun s => ?_
  refine r_p (pc' := 16) (p_astore_n (k := 2) (lv' := [(2, vr v2), (1, vr v1), (0, vt 999)]) (by decide +kernel) (Nat.le_of_ble_eq_true rfl) rfl) ?_
  refine r_p (pc' := 17) (p_iconst (n := 1) (v := 1) (by decide +kernel) rfl) ?_
  refine r_nwL (by decide +kernel) fun v3 s => ?_
  refine r_p (pc' := 20) (p_astore_n (k := 3) (lv' := [(3, vr v3), (2, vr v2), (1, vr v1), (0, vt 999)]) (by decide +kernel) (Nat.le_of_ble_eq_true rfl) rfl) ?_
  refine r_p (pc' := 21) (p_iconst (n := 0) (v := 0) (by decide +kernel) rfl) ?_
  refine r_p (pc' := 23) (p_istore (i := 4) (lv' := [(4, vi 0), (3, vr v3), (2, vr v2), (1, vr v1), (0, vt 999)]) (by decide +kernel) (Nat.le_of_ble_eq_true rfl) rfl) ?_
  refine r_sub (lv' := [(0, vt 999), (1, vr v1), (2, vr v2), (3, vr v3), (4, vi 0)]) [4, 3, 2, 1, 0] rfl ?_
  refine r_loop3 (fun (x : Int32) => [(0, vt 999), (1, vr v1), (2, vr v2), (3, vr v3), (4, vi x)]) (fun K hb hk x s => ?_) 0 _
  exact rmL_main_L n0 xs v1 v2 v3 Y hx K hb (by rw [hk]; rfl) (by rw [hk]; rfl) x s
