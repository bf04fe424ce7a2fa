import java.lang.reflect.Constructor;
import java.lang.reflect.Field;
import java.lang.reflect.Member;
import java.lang.reflect.Method;
import java.lang.reflect.Modifier;
import java.util.Set;
import java.util.TreeSet;

/** The public face: its constants, its calls, and nothing else that is seen from outside. */
public final class FaceTest {
    public static void main(String[] args) {
        Check.due("BAD", EachSeesOne.BAD, -1);
        Check.due("NO", EachSeesOne.NO, -2);
        Check.due("FULL", EachSeesOne.FULL, -3);
        Check.due("NONE", EachSeesOne.NONE, -4);
        Class<?> face = EachSeesOne.class;
        Check.due("public final", face.getModifiers() & (Modifier.PUBLIC | Modifier.FINAL), Modifier.PUBLIC | Modifier.FINAL);
        Set<String> calls = new TreeSet<>();
        for (Method m : face.getDeclaredMethods()) {
            if (isOutside(m)) {
                calls.add(m.getReturnType() + " " + m.getName() + signs(m.getParameterTypes()));
            }
        }
        Set<String> due = new TreeSet<>();
        for (String call : ("write(int,long) wipe() fault() lay() cell(int) sees(int,int,int) manner(int,int) stroke() put(int,int)"
                + " barge(int) run(int,int,int) seen(int,int,int,int) homes() best(int) mind(int,int) stranger(int,int) seats(int)"
                + " hum(int) knows(int,int,int,int) allKnow(int,int,int) wake(int) noWake() wrong() fog(int,int,int,int) keep()"
                + " back() count(int)").split(" ")) {
            due.add("int " + call);
        }
        Check.due("the calls " + calls, calls.equals(due) ? 1 : 0, 1);
        Set<String> fields = new TreeSet<>();
        for (Field f : face.getDeclaredFields()) {
            if (isOutside(f)) {
                fields.add(f.getName());
            }
        }
        Check.due("the constants " + fields, fields.equals(Set.of("BAD", "NO", "FULL", "NONE")) ? 1 : 0, 1);
        Constructor<?>[] made = face.getDeclaredConstructors();
        Check.due("constructors", made.length, 1);
        Check.due("its parameters", made[0].getParameterCount(), 0);
        Check.end();
    }

    private static boolean isOutside(Member m) {
        return !m.isSynthetic() && !Modifier.isPrivate(m.getModifiers());
    }

    private static String signs(Class<?>[] types) {
        StringBuilder s = new StringBuilder("(");
        for (Class<?> type : types) {
            s.append(s.length() > 1 ? "," : "").append(type);
        }
        return s.append(")").toString();
    }
}
