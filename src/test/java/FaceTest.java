import java.lang.reflect.Field;
import java.lang.reflect.Method;
import java.lang.reflect.Modifier;
import java.util.TreeSet;

/** The public face is the document's, and no more (LANGUAGE.md, rule 1). */
public final class FaceTest {
    private static final String[] METHODS = {
        "int feed(int,int,int,int,int)", "int plan(int)", "int fault()", "int count(int)", "int zone(int,int)",
        "int trip(int,int)", "int device(int,int)", "int bind(int,int,int)", "int log(int,int)",
        "int ahead(int,int,int)", "int bears(int,int,int)", "int flips(int,int)", "int minutes(int)",
        "int load(int,int)", "int hold(int,int)", "int start(int)", "int foresee(int)", "int undo()",
        "int note(int,int,int)", "int fits(int,int)", "int look(int,int)", "void forget()",
        "int years(int,int,int)", "void image()", "boolean restore()",
    };

    public static void main(String[] args) {
        Check check = new Check();
        TreeSet<String> due = new TreeSet<>();
        TreeSet<String> publicNames = new TreeSet<>();
        for (String method : METHODS) {
            due.add(method);
            publicNames.add(method.substring(method.indexOf(' ') + 1, method.indexOf('(')));
        }
        TreeSet<String> got = new TreeSet<>();
        for (Method method : HeatGovernor.class.getDeclaredMethods()) {
            if (Modifier.isPrivate(method.getModifiers())) {
                check.same("private " + method.getName(), publicNames.contains(method.getName()) ? 1 : 0, 0);
            } else {
                got.add(method.getReturnType() + " " + method.getName() + parameters(method));
            }
        }
        check.same("methods " + got, got.equals(due) ? 1 : 0, 1);
        for (Field field : HeatGovernor.class.getDeclaredFields()) {
            boolean shown = !Modifier.isPrivate(field.getModifiers());
            check.same("shown " + field.getName(), shown ? 1 : 0, field.getName().equals("NONE") ? 1 : 0);
        }
        check.same("NONE", HeatGovernor.NONE, -1);
        check.same("final", Modifier.isFinal(HeatGovernor.class.getModifiers()) ? 1 : 0, 1);
        check.same("constructors", HeatGovernor.class.getConstructors().length, 1);
        check.end();
    }

    private static String parameters(Method method) {
        StringBuilder text = new StringBuilder("(");
        for (Class<?> type : method.getParameterTypes()) {
            text.append(text.length() == 1 ? "" : ",").append(type);
        }
        return text.append(")").toString();
    }
}
