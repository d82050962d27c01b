import java.lang.management.ManagementFactory;
import java.lang.reflect.Array;
import java.lang.reflect.Field;
import java.lang.reflect.Modifier;
import java.util.ArrayList;
import java.util.IdentityHashMap;
import java.util.List;
import java.util.Map;

/** What a run makes: the rows are made with the object, and no call of the dearest kinds makes anything more. */
public final class RoomTest {
    private static final com.sun.management.ThreadMXBean THREADS =
        (com.sun.management.ThreadMXBean) ManagementFactory.getThreadMXBean();
    private static final String LAW = "!(v>90)&(g<3|d%2=1)?v*(n+1)/(g+2)-d*3+(t=k)*7;n>3&d>2?-(v-t*k)%((g+1)*(n-d))+v/(1+d);(k<3)*v+!(t%2)*(n*g-d)+9";

    private RoomTest() {
    }

    private static long made() {
        return THREADS.getThreadAllocatedBytes(Thread.currentThread().getId());
    }

    public static void main(String[] args) throws Exception {
        roomOfAnObject();
        LotteryOfLosses warm = new LotteryOfLosses();
        warm.mean(0, 0, 0);
        made();
        long before = made();
        LotteryOfLosses x = new LotteryOfLosses();
        long object = made() - before;
        System.out.println("an object and its rows: " + object + " bytes");
        Due.is("small enough", object < 120_000 ? 1 : 0, 1);
        for (char c : LAW.toCharArray()) {
            x.feed(c);
        }
        Due.is("law()", x.law(), 1);
        for (int i = 0; i < 12; i++) {
            x.ticket(i % 8, i % 3);
        }
        x.row(0, 0, 12);
        for (int i = 0; i < 12; i++) {
            x.put(0, i, i);
        }
        dearest(x, 1);
        long begun = System.nanoTime();
        before = made();
        long answers = dearest(x, 32);
        long calls = made() - before;
        Due.is("bytes made by calls", calls, 0);
        System.out.println("dearest calls: " + (System.nanoTime() - begun) / 1000000 + " ms, " + answers);
        for (int i = 0; i < 12; i++) {
            x.mend(i, 2, 0);
        }
        begun = System.nanoTime();
        answers = dearest(x, 4);
        System.out.println("with one holder: " + (System.nanoTime() - begun) / 1000000 + " ms, " + answers);
        Due.end();
    }

    /** The dearest call is that of the constructor: 512 of them stay within the room of a run. */
    private static void roomOfAnObject() throws Exception {
        Map<Object, Object> seen = new IdentityHashMap<>();
        List<Object> parts = new ArrayList<>(List.of(new LotteryOfLosses()));
        int fields = 0;
        while (!parts.isEmpty()) {
            Object part = parts.remove(parts.size() - 1);
            if (part == null || part instanceof String || seen.put(part, part) != null) {
                continue;
            }
            if (part.getClass().isArray()) {
                fields += Array.getLength(part);
                continue;
            }
            for (Field field : part.getClass().getDeclaredFields()) {
                if (!Modifier.isStatic(field.getModifiers())) {
                    fields++;
                    field.setAccessible(true);
                    parts.add(field.getType().isPrimitive() ? null : field.get(part));
                }
            }
        }
        System.out.println("an object is " + seen.size() + " objects and arrays of " + fields + " fields and elements");
        Due.is("512 of them within 600,000 objects", 512 * seen.size() <= 600_000 ? 1 : 0, 1);
        Due.is("512 of them within 7.3 million fields", 512 * fields <= 7_300_000 ? 1 : 0, 1);
    }

    /** Sixteen calls a round. */
    private static long dearest(LotteryOfLosses x, int rounds) {
        long all = 0;
        for (int i = 0; i < rounds; i++) {
            int m = 5 + i % 3;
            x.mend(0, 0, i % 100);
            all += x.mean(-1, m, 0) + x.worst(0, m, 1) + x.more(1, 2000 * m + 1010, 0) + x.keeps(0, m, 0);
            all += x.rid(0, m, 0) + x.given(1, m, 0) + x.swap(m) + x.cancel(m) + x.fairest(10 * m + 3, -2);
            all += x.syndicate(m) + x.doubt(0, 3) + x.ahead(0, 0xfff, 0) + x.ring(0, 0);
            all += x.whose(0, 0, 10) + x.drawn(i, 2012, -1);
        }
        return all;
    }
}
