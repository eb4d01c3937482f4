import java.lang.reflect.Constructor;
import java.lang.reflect.Field;
import java.lang.reflect.Member;
import java.lang.reflect.Method;
import java.lang.reflect.Modifier;
import java.util.TreeSet;

/** The public face: the members that the document names and no other that can be seen from outside. */
public final class FaceTest {
    public static void main(String[] args) throws Exception {
        Due due = new Due();
        TreeSet<String> seen = new TreeSet<>();
        for (Method m : TimedStreams.class.getDeclaredMethods()) {
            if (isSeen(m)) {
                seen.add(Modifier.toString(m.getModifiers()) + " " + m.getReturnType() + " " + m.getName() + parameters(m.getParameterTypes()));
            }
        }
        for (Constructor<?> c : TimedStreams.class.getDeclaredConstructors()) {
            if (isSeen(c)) {
                seen.add("public TimedStreams" + parameters(c.getParameterTypes()));
            }
        }
        for (Field f : TimedStreams.class.getDeclaredFields()) {
            if (isSeen(f)) {
                seen.add(Modifier.toString(f.getModifiers()) + " " + f.getType() + " " + f.getName() + " = " + f.get(null));
            }
        }
        TreeSet<String> wanted = new TreeSet<>(java.util.List.of(
                "public TimedStreams()", "public int stage(int,int,int)", "public int subscribe(int,int)",
                "public boolean request(int,long)", "public boolean cancel(int)", "public boolean emit(int,int)",
                "public boolean complete(int)", "public boolean fail(int,int)", "public int advance(int)",
                "public int status(int)", "public int code(int)", "public int delivered(int)",
                "public long item(int,int)", "public int pending(int)", "public int open(int)", "public void restart()",
                "public static final int ACTIVE = 0", "public static final int DONE = 1",
                "public static final int FAILED = 2", "public static final int CANCELLED = 3",
                "public static final int NONE = -1", "public static final int FULL = -2",
                "public static final int BAD = -3"));
        due.same("members", seen.toString(), wanted.toString());
        due.same("class", Modifier.toString(TimedStreams.class.getModifiers()), "public final");
        due.end();
    }

    private static boolean isSeen(Member m) {
        return !Modifier.isPrivate(m.getModifiers());
    }

    private static String parameters(Class<?>[] types) {
        StringBuilder all = new StringBuilder("(");
        for (Class<?> type : types) {
            all.append(all.length() > 1 ? "," : "").append(type);
        }
        return all.append(")").toString();
    }
}
