import java.lang.reflect.Constructor;
import java.lang.reflect.Field;
import java.lang.reflect.Method;
import java.lang.reflect.Modifier;
import java.util.Set;
import java.util.TreeSet;

/** The public face and LANGUAGE.md's rule 1. */
public final class FaceTest {
    private static final String[] FACE = {
        "int feed(int,int,int,int,int)", "boolean end(int)", "int shop()", "int law()", "int fault()",
        "int part(int,int)", "int tool(int,int)", "int master(int,boolean)", "int rule(int,int)",
        "int deed(int,int,int,int)", "int swap(int,int,int)", "int serve(int,int)", "int grind(int)",
        "boolean nail(int,boolean)", "int days(int)", "int guilty()", "int culprits(int,int,int)",
        "int ask(boolean)", "int laundered(int,boolean)", "int guard(int)", "int word(int)", "int clean()",
        "int exchange(int,int,boolean)", "int with(int)", "int strokes(int,boolean)", "int harmed(int,int)",
        "int cell(int)", "int joint(int,int)", "int clock(int,int,boolean)", "int together(boolean)",
        "int heir()", "boolean jury(int,int)", "boolean alibi(int,int)", "int worstMaster()",
        "int pairs(int,int)", "int trial(int)", "int span(int,boolean)", "int after(int,int,int,int)",
        "int worst(int,int,int)", "int sure(int)", "int truth(int,int)", "int log(int,int)", "int led(int)",
        "int seed(int)", "boolean undo()", "void image()", "boolean back()", "int count(int)"};

    public static void main(String[] args) {
        Set<String> due = new TreeSet<>(java.util.Arrays.asList(FACE));
        Set<String> found = new TreeSet<>();
        Set<String> names = new TreeSet<>();
        for (Method method : ToolCourt.class.getDeclaredMethods()) {
            if (Modifier.isPublic(method.getModifiers())) {
                found.add(told(method));
                names.add(method.getName());
            }
        }
        Kit.due("the public methods", found, due);
        for (Method method : ToolCourt.class.getDeclaredMethods()) {
            boolean open = Modifier.isPublic(method.getModifiers());
            Kit.due(told(method) + " is private, if it is not public", open || Modifier.isPrivate(method.getModifiers()), true);
            Kit.due(told(method) + " has a name of its own", open || !names.contains(method.getName()), true);
        }
        for (Field field : ToolCourt.class.getDeclaredFields()) {
            boolean constant = field.getName().equals("NONE");
            Kit.due(field.getName() + " is private", Modifier.isPrivate(field.getModifiers()), !constant);
            Kit.due(field.getName() + " is final, if it is static",
                    !Modifier.isStatic(field.getModifiers()) || Modifier.isFinal(field.getModifiers()), true);
        }
        Constructor<?>[] constructors = ToolCourt.class.getDeclaredConstructors();
        Kit.due("constructors", constructors.length, 1);
        Kit.due("the constructor is public", Modifier.isPublic(constructors[0].getModifiers()), true);
        Kit.due("its parameters", constructors[0].getParameterCount(), 0);
        Kit.due("the class is final", Modifier.isFinal(ToolCourt.class.getModifiers()), true);
        for (Class<?> inside : ToolCourt.class.getDeclaredClasses()) {
            Kit.due(inside.getName() + " is static", Modifier.isStatic(inside.getModifiers()), true);
        }
        Kit.due("NONE", ToolCourt.NONE, -1);
        Kit.close();
    }

    private static String told(Method method) {
        StringBuilder parameters = new StringBuilder();
        for (Class<?> type : method.getParameterTypes()) {
            parameters.append(parameters.length() == 0 ? "" : ",").append(type.getSimpleName());
        }
        return method.getReturnType().getSimpleName() + " " + method.getName() + "(" + parameters + ")";
    }
}
