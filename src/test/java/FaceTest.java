import java.lang.reflect.Field;
import java.lang.reflect.Method;
import java.lang.reflect.Modifier;
import java.util.TreeSet;

/** The public face is the document's, its throws too, and no more (LANGUAGE.md, rule 1). */
public final class FaceTest {
    private static final String[] METHODS = {
        "int feed(int,int,int,int,int)", "int plan(int) IllegalArgumentException", "int fault()",
        "int count(int) NoSuchElementException", "int zone(int,int) NoSuchElementException",
        "int trip(int,int) NoSuchElementException", "int device(int,int) NoSuchElementException",
        "int bind(int,int,int) NoSuchElementException", "int log(int,int) NoSuchElementException",
        "int ahead(int,int,int) NoSuchElementException IllegalArgumentException",
        "int bears(int,int,int) NoSuchElementException IllegalArgumentException",
        "int flips(int,int) NoSuchElementException IllegalArgumentException", "int minutes(int)",
        "int load(int,int)", "int hold(int,int)", "int start(int)", "int foresee(int)", "int undo()",
        "int note(int,int,int)", "int fits(int,int) NoSuchElementException", "int look(int,int) NoSuchElementException",
        "void forget()", "int years(int,int,int) NoSuchElementException IllegalArgumentException", "void image()",
        "boolean restore()",
    };

    public static void main(String[] args) {
        Check check = new Check();
        TreeSet<String> due = new TreeSet<>();
        TreeSet<String> publicNames = new TreeSet<>();
        for (String method : METHODS) {
            due.add(method);
            publicNames.add(method.substring(method.indexOf(' ') + 1, method.indexOf('(')));
        }
        TreeSet<String> got = new TreeSet<>();
        for (Method method : HeatGovernor.class.getDeclaredMethods()) {
            if (Modifier.isPrivate(method.getModifiers())) {
                check.same("private " + method.getName(), publicNames.contains(method.getName()) ? 1 : 0, 0);
            } else {
                got.add(method.getReturnType() + " " + method.getName() + parameters(method) + thrown(method));
            }
        }
        check.same("methods " + got, got.equals(due) ? 1 : 0, 1);
        for (Field field : HeatGovernor.class.getDeclaredFields()) {
            boolean shown = !Modifier.isPrivate(field.getModifiers());
            check.same("shown " + field.getName(), shown ? 1 : 0, field.getName().equals("NONE") ? 1 : 0);
        }
        check.same("NONE", HeatGovernor.NONE, -1);
        check.same("final", Modifier.isFinal(HeatGovernor.class.getModifiers()) ? 1 : 0, 1);
        check.same("constructors", HeatGovernor.class.getConstructors().length, 1);
        check.end();
    }

    private static String parameters(Method method) {
        StringBuilder text = new StringBuilder("(");
        for (Class<?> type : method.getParameterTypes()) {
            text.append(text.length() == 1 ? "" : ",").append(type);
        }
        return text.append(")").toString();
    }

    /** What it says it throws, in the document's order. */
    private static String thrown(Method method) {
        StringBuilder text = new StringBuilder();
        for (Class<?> type : method.getExceptionTypes()) {
            text.append(' ').append(type.getSimpleName());
        }
        return text.toString();
    }
}
