import java.lang.management.ManagementFactory;
import java.lang.reflect.Constructor;
import java.lang.reflect.Field;
import java.lang.reflect.Method;
import java.lang.reflect.Modifier;
import java.util.Set;
import java.util.TreeSet;

/** The public face is the document's and no more; calls make next to no objects. */
public final class FaceTest {
    private static final Due due = new Due();

    private static final Set<String> FACE = Set.of(
        "feed(long,long,long)", "end(int)", "board()", "add(int)", "remove(int)", "load(int)", "unload(int)",
        "unbind(int)", "bind(int,int)", "rescan()", "forget(int)", "device(int,int)", "links(int,int)",
        "driver(int,int)", "score(int,int)", "line(int,int)", "would(int,int)", "order(int,int)", "ring(int,int)",
        "wanted(int,int)", "supply(int,int)", "taken(int)", "log(int,int)", "find(int)", "count(int)");

    public static void main(String[] args) {
        members();
        nested(LateBinder.class);
        room();
        due.finish("FaceTest");
    }

    private static void members() {
        due.part("the face");
        due.is("final and public", LateBinder.class.getModifiers(), Modifier.PUBLIC | Modifier.FINAL);
        Set<String> seen = new TreeSet<>();
        for (Method m : LateBinder.class.getDeclaredMethods()) {
            String name = m.toString().replaceAll(".*LateBinder\\.([a-zA-Z$0-9]+\\([^)]*\\)).*", "$1");
            if (!Modifier.isPrivate(m.getModifiers()) && !m.isSynthetic()) {
                seen.add(name);
                due.is(name + " is public", m.getModifiers(), Modifier.PUBLIC);
                due.is(name + " answers int", m.getReturnType() == int.class ? 1 : 0, 1);
            }
        }
        due.is("the methods " + seen, seen.equals(FACE) ? 1 : 0, 1);
        for (Field f : LateBinder.class.getDeclaredFields()) {
            boolean shown = !Modifier.isPrivate(f.getModifiers());
            due.is("field " + f.getName(), shown ? 1 : 0, f.getName().equals("NONE") ? 1 : 0);
        }
        Constructor<?>[] made = LateBinder.class.getDeclaredConstructors();
        due.is("constructors", made.length, 1);
        due.is("constructor's parameters", made[0].getParameterCount(), 0);
        due.is("NONE", LateBinder.NONE, -1);
    }

    /** No method of a class inside bears a name of the face; static fields are final. */
    private static void nested(Class<?> outer) {
        for (Class<?> c : outer.getDeclaredClasses()) {
            due.part("class " + c.getSimpleName());
            due.is("static", Modifier.isStatic(c.getModifiers()) ? 1 : 0, 1);
            due.is("not public", c.getModifiers() & (Modifier.PUBLIC | Modifier.PROTECTED), 0);
            for (Method m : c.getDeclaredMethods()) {
                boolean borne = FACE.stream().anyMatch(f -> f.startsWith(m.getName() + "("));
                due.is(m.getName(), borne ? 1 : 0, 0);
            }
            int fields = 0;
            for (Field f : c.getDeclaredFields()) {
                boolean fixed = Modifier.isStatic(f.getModifiers());
                due.is(f.getName() + " is final", fixed && !Modifier.isFinal(f.getModifiers()) ? 1 : 0, 0);
                fields += fixed ? 0 : 1;
            }
            due.is("some twenty fields, not " + fields, fields <= 20 ? 1 : 0, 1);
        }
    }

    private static long allocated() {
        return ((com.sun.management.ThreadMXBean) ManagementFactory.getThreadMXBean()).getCurrentThreadAllocatedBytes();
    }

    private static void room() {
        due.part("the room");
        new LateBinder();
        allocated();
        long before = allocated();
        LateBinder x = new LateBinder();
        long made = allocated() - before;
        due.is("bytes of a new object: " + made, made < 25_000 ? 1 : 0, 1);
        String text = "device a :a;device b :a needs u;device c :a in a;driver p :a give u;driver q :*;driver r :a;"
            + "driver s :a get u map 1;driver t :a line 3;driver u :?;driver v :a give v;driver w :* or :a give u;";
        Due.tell(x, text);
        dear(x);
        before = allocated();
        for (int i = 0; i < 30; i++) {
            dear(x);
        }
        made = allocated() - before;
        due.is("bytes of 500 calls: " + made, made < 2_000 ? 1 : 0, 1);
    }

    private static void dear(LateBinder x) {
        for (int d = 0; d < 3; d++) {
            x.add(d);
        }
        x.wanted(1, 1);
        x.load(0);
        x.load(3);
        x.would(2, 2);
        x.order(0, 0);
        x.links(0, 5);
        x.ring(1, -1);
        x.rescan();
        x.bind(1, 3);
        x.unload(3);
        x.unload(0);
        x.remove(0);
        x.remove(1);
        x.feed(0x6465766963652061L, 0x203a7820696e2062L, 0x3b00000000000000L);
        x.board();
    }
}
