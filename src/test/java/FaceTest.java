import java.lang.reflect.Constructor;
import java.lang.reflect.Field;
import java.lang.reflect.Method;
import java.lang.reflect.Modifier;
import java.util.TreeSet;

/** The public face: every member with its throws clause, and no other member that is not private. */
public final class FaceTest {
    private static final String BOUNDS = " IndexOutOfBoundsException";
    private static final String ARGUMENT = " IllegalArgumentException";
    private static final String STATE = " IllegalStateException";

    private static final String[] FACE = {
        "int takeIn(int,int,int,int,boolean)" + ARGUMENT,
        "int handOut(int,int)" + BOUNDS,
        "int rush(int)" + BOUNDS + STATE,
        "int load(int)" + BOUNDS,
        "int room(int,int)" + BOUNDS + ARGUMENT + STATE,
        "int pass(int)" + ARGUMENT + STATE,
        "int set(int,int)" + BOUNDS + ARGUMENT,
        "int append(int)" + ARGUMENT + STATE,
        "int clearBuffer()",
        "int firstError()",
        "int read()" + ARGUMENT,
        "int keep(int)" + ARGUMENT,
        "int goBack(int)" + ARGUMENT + STATE,
        "int undo()" + STATE,
        "int pileOf(int,int)" + BOUNDS + ARGUMENT,
        "int machineOf(int,int)" + BOUNDS + ARGUMENT,
        "int shelf(int)" + BOUNDS,
        "int count(int)" + ARGUMENT,
        "int setting(int)" + BOUNDS,
        "int waiting(int)" + ARGUMENT,
        "int ifLoaded(int)" + BOUNDS,
        "int endsIn()",
        "int fewestLate(int)" + ARGUMENT,
        "double lateShare()",
        "long digest()"};

    public static void main(String[] args) {
        Class<?> face = PileTickets.class;
        Check.due("modifiers of the class", face.getModifiers(), Modifier.PUBLIC | Modifier.FINAL);
        Check.dueText("the methods", methods(face), String.join("\n", new TreeSet<>(java.util.List.of(FACE))));
        Check.due("constructors", face.getDeclaredConstructors().length, 1);
        for (Constructor<?> made : face.getDeclaredConstructors()) {
            Check.due("modifiers of the constructor", made.getModifiers(), Modifier.PUBLIC);
            Check.due("parameters of the constructor", made.getParameterCount(), 0);
        }
        for (Field field : face.getDeclaredFields()) {
            boolean isNone = field.getName().equals("NONE");
            Check.due("private " + field.getName(), Modifier.isPrivate(field.getModifiers()) ? 1 : 0, isNone ? 0 : 1);
            boolean isOpen = Modifier.isStatic(field.getModifiers()) && !Modifier.isFinal(field.getModifiers());
            Check.due("static and not final " + field.getName(), isOpen ? 1 : 0, 0);
        }
        Check.due("public fields", face.getFields().length, 1);
        for (Class<?> inside : face.getDeclaredClasses()) {
            Check.due("static " + inside.getName(), Modifier.isStatic(inside.getModifiers()) ? 1 : 0, 1);
            Check.due("open " + inside.getName(), inside.getModifiers() & (Modifier.PUBLIC | Modifier.PROTECTED), 0);
        }
        Check.end();
    }

    private static String methods(Class<?> face) {
        TreeSet<String> texts = new TreeSet<>();
        for (Method method : face.getDeclaredMethods()) {
            if (!Modifier.isPrivate(method.getModifiers())) {
                boolean isPlain = method.getModifiers() == Modifier.PUBLIC;
                texts.add(isPlain ? text(method) : method.toGenericString());
            }
        }
        return String.join("\n", texts);
    }

    private static String text(Method method) {
        StringBuilder text = new StringBuilder(method.getReturnType().getName() + " " + method.getName() + "(");
        for (Class<?> type : method.getParameterTypes()) {
            text.append(text.charAt(text.length() - 1) == '(' ? "" : ",").append(type.getName());
        }
        text.append(')');
        for (Class<?> thrown : method.getExceptionTypes()) {
            text.append(' ').append(thrown.getSimpleName());
        }
        return text.toString();
    }
}
