import java.lang.reflect.Constructor;
import java.lang.reflect.Field;
import java.lang.reflect.Method;
import java.lang.reflect.Modifier;
import java.util.TreeSet;

/** The public face, as the document has it, and nothing beside it. */
final class FaceTest {
    private static final String[] FACE = {
        "int grid(int)", "int plane(int)", "int filled(int)", "int majority(int)", "int wheel(int)", "int tree(int)",
        "int within(int,int)", "int base(int,int)", "int quorum(int,int)", "int meeting(int,int)", "int apart()",
        "int load(int)", "boolean stops(int)", "int weakest(int)", "int needless()", "int chance(int)",
        "int chanceOf(int,int)", "int sizes(int)", "int pivotal(int)", "boolean fair()", "int better()",
        "int ask(int)", "boolean leave(int)", "int bring(int,int)", "boolean withdraw(int)", "boolean breakDown(int)",
        "boolean mend(int)", "int node(int,int)", "int arbiter(int,int)", "int waiting(int,int,int)",
        "int way(int,int,int)", "int is(int)", "int handled(int)", "int sent(int)", "int book(int,int)",
        "int waitsFor(int)", "int unheard(int)", "int crowded(int)", "int trace(int,int)", "int goOn(int,int)",
        "int entersBy(int,int)", "int searched(int,int)", "int searchedBy(int,int,int)",
        "boolean delay(int,int,int)", "int timed(int,int,int)", "int soonest(int,int)", "int crowd(int,int,int)",
        "int mean()", "long byRoot()",
    };

    private FaceTest() {
    }

    public static void main(String[] args) throws Exception {
        Class<?> c = QuorumGate.class;
        Check.isTrue("a public class", Modifier.isPublic(c.getModifiers()));
        Check.isTrue("a final class", Modifier.isFinal(c.getModifiers()));
        Check.isTrue("of nothing else", c.getSuperclass() == Object.class && c.getInterfaces().length == 0);
        constructors(c);
        fields(c);
        methods(c);
        inner(c);
        Check.end("FaceTest");
    }

    private static void constructors(Class<?> c) {
        Constructor<?>[] all = c.getDeclaredConstructors();
        Check.due("constructors", all.length, 1);
        Check.isTrue("public", Modifier.isPublic(all[0].getModifiers()));
        Check.due("without parameters", all[0].getParameterCount(), 0);
    }

    private static void fields(Class<?> c) throws Exception {
        for (Field f : c.getDeclaredFields()) {
            boolean isNone = f.getName().equals("NONE");
            Check.due("visible: " + f, Modifier.isPrivate(f.getModifiers()), !isNone);
            Check.isTrue("final if static: " + f, !Modifier.isStatic(f.getModifiers())
                || Modifier.isFinal(f.getModifiers()));
        }
        Field none = c.getDeclaredField("NONE");
        Check.due("NONE's kind", none.getModifiers(), Modifier.PUBLIC | Modifier.STATIC | Modifier.FINAL);
        Check.isTrue("NONE is an int", none.getType() == int.class);
        Check.due("NONE", none.getInt(null), -1);
    }

    private static void methods(Class<?> c) {
        TreeSet<String> due = new TreeSet<>();
        TreeSet<String> names = new TreeSet<>();
        for (String s : FACE) {
            due.add(s);
            names.add(s.substring(s.indexOf(' ') + 1, s.indexOf('(')));
        }
        Check.due("methods of the face", due.size(), 49);
        for (Method m : c.getDeclaredMethods()) {
            if (Modifier.isPublic(m.getModifiers())) {
                Check.isTrue("in the face: " + m, due.remove(told(m)));
                Check.due("plain: " + m, m.getModifiers(), Modifier.PUBLIC);
            } else {
                Check.isTrue("private: " + m, Modifier.isPrivate(m.getModifiers()));
                Check.isTrue("of a name of its own: " + m, !names.contains(m.getName()));
            }
        }
        Check.isTrue("not there: " + due, due.isEmpty());
    }

    private static String told(Method m) {
        StringBuilder s = new StringBuilder(m.getReturnType().getName()).append(' ').append(m.getName()).append('(');
        for (Class<?> p : m.getParameterTypes()) {
            s.append(s.charAt(s.length() - 1) == '(' ? "" : ",").append(p.getName());
        }
        return s.append(')').toString();
    }

    private static void inner(Class<?> c) {
        Check.isTrue("some twelve classes", c.getDeclaredClasses().length < 12);
        for (Class<?> k : c.getDeclaredClasses()) {
            Check.isTrue("private and static: " + k, Modifier.isPrivate(k.getModifiers())
                && Modifier.isStatic(k.getModifiers()));
            int own = 0;
            for (Field f : k.getDeclaredFields()) {
                own += Modifier.isStatic(f.getModifiers()) ? 0 : 1;
                Check.isTrue("final if static: " + f, !Modifier.isStatic(f.getModifiers())
                    || Modifier.isFinal(f.getModifiers()));
            }
            Check.isTrue("some twenty fields: " + k, own <= 20);
        }
    }
}
