import java.lang.management.ManagementFactory;
import java.lang.reflect.Method;
import java.lang.reflect.Modifier;
import java.util.Arrays;
import java.util.Random;

/** Whatever the arguments are, nothing is thrown; and no call makes an object or an array. */
public final class RoomTest {
    private static final int[] EDGES = {Integer.MIN_VALUE, Integer.MIN_VALUE + 1, -65536, -3, -2, -1, 0, 1, 2, 3, 4,
        5, 6, 7, 11, 12, 13, 15, 16, 17, 33, 39, 40, 41, 49, 59, 200, 599, 600, 999, 1 << 20, Integer.MAX_VALUE};

    public static void main(String[] args) throws Exception {
        boolean fine = nothingIsThrown() & nothingIsMade();
        System.out.println(fine ? "nothing is thrown, nothing is made" : "not so");
        if (!fine) {
            System.exit(1);
        }
    }

    private static boolean nothingIsThrown() throws Exception {
        Random chance = new Random(5);
        Method[] all = Arrays.stream(RoundSlack.class.getDeclaredMethods())
                .filter(m -> Modifier.isPublic(m.getModifiers())).toArray(Method[]::new);
        Arrays.sort(all, (a, b) -> a.getName().compareTo(b.getName()));
        for (int run = 0; run < 400; run++) {
            RoundSlack x = new RoundSlack();
            if (run % 2 == 0) full(x, run);
            for (int call = 0; call < 486; call++) {
                Method m = all[chance.nextInt(all.length)];
                Object[] with = new Object[m.getParameterCount()];
                boolean wild = chance.nextInt(3) == 0;
                for (int i = 0; i < with.length; i++) {
                    with[i] = wild ? EDGES[chance.nextInt(EDGES.length)] : chance.nextInt(13);
                }
                try {
                    m.invoke(x, with);
                } catch (java.lang.reflect.InvocationTargetException e) {
                    System.out.println(m + " with " + Arrays.toString(with) + " threw " + e.getCause());
                    return false;
                }
            }
        }
        return true;
    }

    private static void full(RoundSlack x, int seed) {
        Random chance = new Random(seed);
        x.price(1, 1);
        for (int o = 0; o < 12; o++) {
            x.order(chance.nextInt(41), chance.nextInt(41), 0, 600 - chance.nextInt(300), chance.nextInt(9));
            x.load(o, o % 2, chance.nextInt(51));
        }
        x.fill(1 + seed % 4);
    }

    /** Told by the machine itself, which makes a little of its own: 512 of the dearest calls. */
    private static boolean nothingIsMade() {
        com.sun.management.ThreadMXBean room = (com.sun.management.ThreadMXBean) ManagementFactory.getThreadMXBean();
        long thread = Thread.currentThread().getId();
        RoundSlack[] made = new RoundSlack[8];
        for (int i = 0; i < 8; i++) {
            made[i] = new RoundSlack();
        }
        room.getThreadAllocatedBytes(thread);
        long ahead = room.getThreadAllocatedBytes(thread);
        for (RoundSlack x : made) {
            calls(x);
        }
        long bytes = room.getThreadAllocatedBytes(thread) - ahead;
        System.out.println("8 objects' calls made " + bytes + " bytes");
        return bytes < 20000;
    }

    private static void calls(RoundSlack x) {
        for (int o = 0; o < 12; o++) {
            x.order(o * 7 % 41, o * 11 % 41, 0, 600, 3);
            x.load(o, o % 2, 20);
        }
        for (int i = 0; i < 21; i++) {
            x.fill(1 + i % 4);
            x.image();
            x.again(i % 12, 1 + i % 12, 1 + i % 4);
            x.descent(40);
            for (int kind = 0; kind < 4; kind++) {
                x.best(kind, 3);
                x.many(kind);
            }
            x.spell();
            x.row(0, 40);
            x.lay(0, 0);
            x.judge(0, 0);
            x.ruin(i % 12, 6);
            x.feed('0');
            x.plan();
            x.feed('1');
            x.orders();
            x.back();
            x.undo();
        }
    }
}
