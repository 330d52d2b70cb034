import java.lang.reflect.Field;
import java.lang.reflect.Member;
import java.lang.reflect.Method;
import java.lang.reflect.Modifier;
import java.util.Set;
import java.util.TreeSet;

/** The public face: just the constants, the constructor and the methods of the document, and no other member to be seen. */
public final class FaceTest {
    private static final String[] FACE = {
        "HistoryJudge(int,int)", "ABORTED=2", "BAD=-1", "CLOSED=-2", "COMMITTED=1", "MANY=-3", "OK=0", "OPEN=0", "REFUSED=-4",
        "int write(int,int)", "int read(int,int,int,int)", "int readGround(int,int)", "int install(int,int)", "int commit(int)",
        "int abort(int)", "int commitIf(int,int)", "int state(int)", "boolean clean()", "boolean ordered()", "boolean sourced()",
        "boolean snapshot()", "boolean serial()", "int serialAt(int)",
    };

    public static void main(String[] args) throws IllegalAccessException {
        Due due = new Due();
        Class<?> type = HistoryJudge.class;
        due.is("public final class", type.getModifiers(), Modifier.PUBLIC | Modifier.FINAL);
        due.is("number of nested classes", type.getDeclaredClasses().length, 0);
        Set<String> seen = visibleMembers(type);
        Set<String> want = new TreeSet<>(Set.of(FACE));
        for (String member : want) {
            due.is("the face has " + member, seen.contains(member), true);
        }
        for (String member : seen) {
            due.is("the face may have " + member, want.contains(member), true);
        }
        privateNames(due, type);
        due.end();
    }

    private static Set<String> visibleMembers(Class<?> type) throws IllegalAccessException {
        Set<String> seen = new TreeSet<>();
        for (var made : type.getDeclaredConstructors()) {
            seen.add(made.getName() + parameters(made.getParameterTypes()));
        }
        for (Method method : type.getDeclaredMethods()) {
            if (!isPrivate(method)) {
                seen.add(method.getReturnType().getName() + " " + method.getName() + parameters(method.getParameterTypes()));
            }
        }
        for (Field field : type.getDeclaredFields()) {
            if (!isPrivate(field)) {
                seen.add(field.getName() + "=" + field.getInt(null));
            }
        }
        return seen;
    }

    private static void privateNames(Due due, Class<?> type) {
        for (Method hidden : type.getDeclaredMethods()) {
            for (Method open : type.getMethods()) {
                due.is(hidden + " bears the name of " + open, isPrivate(hidden) && hidden.getName().equals(open.getName()), false);
            }
        }
    }

    private static boolean isPrivate(Member member) {
        return Modifier.isPrivate(member.getModifiers());
    }

    private static String parameters(Class<?>[] types) {
        StringBuilder text = new StringBuilder("(");
        for (Class<?> type : types) {
            text.append(text.length() > 1 ? "," : "").append(type.getName());
        }
        return text.append(")").toString();
    }
}
