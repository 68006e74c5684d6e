import java.lang.reflect.Constructor;
import java.lang.reflect.Field;
import java.lang.reflect.Member;
import java.lang.reflect.Method;
import java.lang.reflect.Modifier;
import java.util.Set;
import java.util.TreeSet;

/** The face: just the members that the document names, and no private method with a name of it. */
public final class FaceTest {
    private static final Set<String> METHODS = new TreeSet<>(Set.of(
            "boolean type(int,int,boolean)", "boolean method(int,int,boolean)", "int argument(int)",
            "int add(int,int,int)", "boolean change(int,int,int,int)", "int handle(int,int,int,int)",
            "int make()", "int flow(int,int)", "int check()"));

    static {
        METHODS.addAll(Set.of("int map(int)", "boolean patch(int,int)", "int cut(int)", "int row(int,int)",
                "int code(int,int)", "int count(int)"));
    }

    public static void main(String[] args) {
        Due due = new Due("the public face");
        due.is("REFUSED", MapForge.REFUSED, -1);
        due.is("NONE", MapForge.NONE, -2);
        due.is("FULL", MapForge.FULL, -3);
        due.is("WRONG", MapForge.WRONG, -4);
        due.is("BROKEN", MapForge.BROKEN, -5);
        due.is("public final", Modifier.isFinal(MapForge.class.getModifiers()), true);
        Set<String> seen = new TreeSet<>();
        Set<String> names = new TreeSet<>();
        for (Method method : MapForge.class.getDeclaredMethods()) {
            if (isOpen(method)) {
                seen.add(signatureOf(method));
                names.add(method.getName());
            }
        }
        due.is("methods " + seen, seen.equals(METHODS), true);
        for (Method method : MapForge.class.getDeclaredMethods()) {
            due.is("hidden " + method, !isOpen(method) && names.contains(method.getName()), false);
        }
        int open = 0;
        for (Field field : MapForge.class.getDeclaredFields()) {
            open += isOpen(field) ? 1 : 0;
        }
        due.is("open fields", open, 5);
        Constructor<?>[] makers = MapForge.class.getDeclaredConstructors();
        due.is("constructors", makers.length, 1);
        due.is("constructor", Modifier.isPublic(makers[0].getModifiers()) && makers[0].getParameterCount() == 0, true);
        due.end("FaceTest");
    }

    private static boolean isOpen(Member member) {
        return !Modifier.isPrivate(member.getModifiers()) && !member.isSynthetic();
    }

    private static String signatureOf(Method method) {
        StringBuilder text = new StringBuilder(method.getReturnType().getName());
        text.append(' ').append(method.getName()).append('(');
        String comma = "";
        for (Class<?> type : method.getParameterTypes()) {
            text.append(comma).append(type.getName());
            comma = ",";
        }
        return text.append(')').toString();
    }
}
