import com.sun.management.ThreadMXBean;
import java.lang.management.ManagementFactory;
import java.lang.reflect.Array;
import java.lang.reflect.Field;
import java.lang.reflect.Modifier;
import java.util.IdentityHashMap;
import java.util.Map;

/** The room that README.md tells: what an object takes when it is new, and that no call makes anything. */
public final class RoomTest {
    private static final int OBJECTS = 50, PLACES = 1_700;

    private static int places;
    private static long kept;

    public static void main(String[] args) throws IllegalAccessException {
        boolean right = newObject() & calls();
        System.out.println(right ? "the room is kept" : "the room is not kept");
        if (!right) {
            System.exit(1);
        }
    }

    private static boolean newObject() throws IllegalAccessException {
        Map<Object, Boolean> seen = new IdentityHashMap<>();
        measure(new HandedVoices(), seen);
        if (seen.size() > OBJECTS || places > PLACES) {
            System.out.println("a new object: " + seen.size() + " objects, " + places + " fields and elements");
            return false;
        }
        return true;
    }

    private static void measure(Object o, Map<Object, Boolean> seen) throws IllegalAccessException {
        if (o == null || o instanceof String || seen.put(o, true) != null) {
            return;
        }
        Class<?> sort = o.getClass();
        if (sort.isArray()) {
            places += Array.getLength(o);
            for (int k = 0; k < Array.getLength(o) && !sort.getComponentType().isPrimitive(); k++) {
                measure(Array.get(o, k), seen);
            }
            return;
        }
        for (Field f : sort.getDeclaredFields()) {
            if (!Modifier.isStatic(f.getModifiers())) {
                places++;
                f.setAccessible(true);
                if (!f.getType().isPrimitive()) {
                    measure(f.get(o), seen);
                }
            }
        }
    }

    private static boolean calls() {
        ThreadMXBean threads = (ThreadMXBean) ManagementFactory.getThreadMXBean();
        if (!threads.isThreadAllocatedMemorySupported()) {
            return true;
        }
        long made = Long.MAX_VALUE;
        // what the machine itself makes when a call is done for the first time isn't the class's
        for (int round = 0; round < 5; round++) {
            HandedVoices x = new HandedVoices();
            long before = threads.getCurrentThreadAllocatedBytes();
            change(x);
            ask(x);
            act(x);
            made = Math.min(made, threads.getCurrentThreadAllocatedBytes() - before);
        }
        // the measuring takes some bytes itself
        if (made > 200) {
            System.out.println("calls that make " + made + " bytes");
            return false;
        }
        return true;
    }

    private static void change(HandedVoices x) {
        for (int k = 0; k < 9; k++) {
            kept += x.member() + x.think(k, 0, k % 2 == 0, k);
        }
        kept += x.hand(0, 0, 5) + x.give(1, 0, 2) + x.names(2, 0, 1, 3, 0) + x.names(3, 0, 2, 4, 3);
        kept += x.names(4, 0, 3, 5, 0) + x.back(1, 0, 4) + x.pass(2) + x.of(2, 0, 3);
        // bar !(b=2|s<2)&q<9;ring b
        int[] text = {0x62617220, 0x2128623d, 0x327c733c, 0x32292671, 0x3c393b72, 0x696e6720, 0x62};
        for (int k = 0; k < text.length; k++) {
            kept += x.feed(text[k], k == text.length - 1 ? 1 : 4);
        }
        kept += x.hall() + x.feed(0x63617021, 4) + x.hall();
    }

    private static void ask(HandedVoices x) {
        kept += x.barred(0, 1, 0) + x.share(0, 1, 0) + x.voices(0, 0, 0) + x.lost(0) + x.decided(0) + x.turning(0);
        kept += x.power(0, 0) + x.few(0) + x.best(0, -1) + x.best(0, 2) + x.right(0, 0, 0) + x.right(0, 1, 1);
        kept += x.surest(0) + x.breach(0) + x.rather(0) + x.heap(0, 0) + x.mend(0, 3, 4) + x.late(0) + x.fewest(0);
        kept += x.settle(0);
    }

    private static void act(HandedVoices x) {
        kept += x.tape(0, 3, 60) + x.tape(1, 3, 60) + x.item(0, 1, 1) + x.read(0, 1) + x.shift(0, 0, 1, 2, 50);
        kept += x.table(0, 0, 0) + x.act(2, 0, 2, 7) + x.trace(0) + x.taken(2, 0, 3) + x.count(4);
    }
}
