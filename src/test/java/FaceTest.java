import java.lang.reflect.Constructor;
import java.lang.reflect.Field;
import java.lang.reflect.Method;
import java.lang.reflect.Modifier;
import java.util.Arrays;
import java.util.Set;
import java.util.TreeSet;

/** The public face: every member that the document names, and no other one that is not private. */
public final class FaceTest {
    private static final Set<String> METHODS = new TreeSet<>(Arrays.asList(
        "int emit(int,int,int)", "int test(int,int,int)", "int snapshotTest(int,int)",
        "int mutateOp(int,int)", "int mutateC(int,int)", "void clear()",
        "boolean passes(int)", "int killers(int)", "int killed(int)",
        "int output(int,int)", "int length(int,int)", "int enough()", "int same()"));

    public static void main(String[] args) {
        Check check = new Check();
        checkConstants(check);
        checkMembers(check);
        check.end();
    }

    private static void checkConstants(Check check) {
        check.due("BAD_OP", MutantLab.BAD_OP, -1);
        check.due("FULL", MutantLab.FULL, -2);
        check.due("BAD_PLACE", MutantLab.BAD_PLACE, -3);
        check.due("NO_MUTANT", MutantLab.NO_MUTANT, -4);
        check.due("NO_TEST", MutantLab.NO_TEST, -5);
    }

    private static void checkMembers(Check check) {
        Class<?> face = MutantLab.class;
        check.holds("the class is public", Modifier.isPublic(face.getModifiers()));
        check.holds("the class is final", Modifier.isFinal(face.getModifiers()));
        check.due("nested classes", face.getDeclaredClasses().length, 0);
        for (Constructor<?> made : face.getDeclaredConstructors()) {
            check.holds(made + " is public", Modifier.isPublic(made.getModifiers()));
            check.due(made + " parameters", made.getParameterCount(), 0);
        }
        checkMethods(check, face);
        checkFields(check, face);
    }

    private static void checkMethods(Check check, Class<?> face) {
        Set<String> shown = new TreeSet<>();
        Set<String> publicNames = new TreeSet<>();
        for (Method method : face.getDeclaredMethods()) {
            if (!Modifier.isPrivate(method.getModifiers())) {
                check.holds(method + " is public", Modifier.isPublic(method.getModifiers()));
                shown.add(textOf(method));
                publicNames.add(method.getName());
            }
        }
        check.holds("methods shown " + shown + ", due are " + METHODS, shown.equals(METHODS));
        for (Method method : face.getDeclaredMethods()) {
            if (Modifier.isPrivate(method.getModifiers())) {
                check.holds(method + " has a name of its own", !publicNames.contains(method.getName()));
            }
        }
    }

    private static void checkFields(Check check, Class<?> face) {
        int shown = 0;
        for (Field field : face.getDeclaredFields()) {
            int modifiers = field.getModifiers();
            if (!Modifier.isPrivate(modifiers)) {
                shown++;
                check.holds(field + " is a public constant", Modifier.isPublic(modifiers)
                    && Modifier.isStatic(modifiers) && Modifier.isFinal(modifiers) && field.getType() == int.class);
            }
        }
        check.due("fields shown", shown, 5);
    }

    private static String textOf(Method method) {
        StringBuilder text = new StringBuilder();
        text.append(method.getReturnType().getSimpleName()).append(' ').append(method.getName()).append('(');
        String separator = "";
        for (Class<?> type : method.getParameterTypes()) {
            text.append(separator).append(type.getSimpleName());
            separator = ",";
        }
        return text.append(')').toString();
    }
}
