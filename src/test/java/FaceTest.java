import java.lang.reflect.Constructor;
import java.lang.reflect.Field;
import java.lang.reflect.Method;
import java.lang.reflect.Modifier;
import java.util.Arrays;
import java.util.Set;
import java.util.TreeSet;

/** The face of the class is the document's, and nothing else of it can be seen (LANGUAGE.md, rule 1). */
final class FaceTest {
    private static final String[] FACE = {
        "int film(int)", "int set(int,int)", "int cut(int,boolean)", "int number(int)", "int shot(int)",
        "int feed(char)", "int add(int,int,int,int)", "int remove(int,int)", "int move(int,int,int,int)",
        "int split(int,int,int)", "int merge(int,int)", "int snap(int,int)", "int fit(int,int)",
        "int retime(int,int,int,int,int)", "int caption(int,int,int)", "char letter(int,int,int)",
        "int shown(int,int)", "int track(int,int)", "int fastest(int)", "double speed(int)", "int read()",
        "int faultPosition()", "int refusal(boolean)", "int undo()", "int saveSnapshot()", "int restoreSnapshot()",
    };

    private FaceTest() {
    }

    public static void main(String[] args) {
        Check check = new Check("FaceTest");
        Class<?> desk = SubtitleDesk.class;
        check.isTrue("public and final", Modifier.isPublic(desk.getModifiers()) && Modifier.isFinal(desk.getModifiers()));
        Set<String> seen = new TreeSet<>();
        Set<String> names = new TreeSet<>();
        for (Method method : desk.getDeclaredMethods()) {
            if (Modifier.isPublic(method.getModifiers())) {
                seen.add(told(method));
                names.add(method.getName());
            }
        }
        check.isTrue("the public methods are " + seen, seen.equals(new TreeSet<>(Arrays.asList(FACE))));
        checkTheRestIsPrivate(check, desk, names);
        for (Class<?> inner : desk.getDeclaredClasses()) {
            check.isTrue(inner + " is not seen from outside", !Modifier.isPublic(inner.getModifiers())
                    && !Modifier.isProtected(inner.getModifiers()));
        }
        Constructor<?>[] constructors = desk.getDeclaredConstructors();
        check.isTrue("one public constructor without parameters", constructors.length == 1
                && Modifier.isPublic(constructors[0].getModifiers()) && constructors[0].getParameterCount() == 0);
        check.end();
    }

    private static void checkTheRestIsPrivate(Check check, Class<?> desk, Set<String> names) {
        for (Method method : desk.getDeclaredMethods()) {
            if (!Modifier.isPublic(method.getModifiers())) {
                check.isTrue(method + " is private", Modifier.isPrivate(method.getModifiers()));
                check.isTrue(method + " has a name of its own", !names.contains(method.getName()));
            }
        }
        for (Field field : desk.getDeclaredFields()) {
            check.isTrue(field + " is private", Modifier.isPrivate(field.getModifiers()));
            check.isTrue(field + " is final if static",
                    !Modifier.isStatic(field.getModifiers()) || Modifier.isFinal(field.getModifiers()));
        }
    }

    private static String told(Method method) {
        StringBuilder parameters = new StringBuilder();
        for (Class<?> parameter : method.getParameterTypes()) {
            parameters.append(parameters.length() == 0 ? "" : ",").append(parameter.getSimpleName());
        }
        return method.getReturnType().getSimpleName() + " " + method.getName() + "(" + parameters + ")";
    }
}
