import java.lang.reflect.InvocationTargetException;
import java.lang.reflect.Method;
import java.util.ArrayList;
import java.util.Arrays;
import java.util.List;
import java.util.Random;

/** Runs of calls told by seeds, in which the class must answer as the plain model does. */
public final class RandomRunsTest {
    private static final int CALLS = 512;
    private static final String[] LAWS = {
        "v", "v+g*5-n*2+(t=2)*k", "d=0?v*2;g>1?0-v;n", "v/(g+1)-d", "!g?v;k%2?-v;-99", "v*9-d*30|0", "t<3&v>20?v;t*k-9;7",
        "g>9?1", "-(v-50)", "v%(d%3)+n*n", "9999*9999*v", "v-n*g*d", "n=2?v;n-d", "((v))-(-n)*!(g)",
    };
    private static final int[] WILD = {
        -1, -2, 12, 13, 6, 7, 8, 60, 61, 120, 1999, 2000, 255, 256, Integer.MAX_VALUE, Integer.MIN_VALUE, -100, 4096, 99, 100,
    };

    private final Random random;
    private final LotteryOfLosses real = new LotteryOfLosses();
    private final Model model = new Model();
    private final List<String> told = new ArrayList<>();
    private final int most;
    private int calls;
    private boolean wrong;

    private RandomRunsTest(long seed) {
        random = new Random(seed);
        most = random.nextInt(5) == 0 ? 12 : 3 + random.nextInt(6);
    }

    public static void main(String[] args) throws Exception {
        int runs = args.length > 0 ? Integer.parseInt(args[0]) : 260;
        int from = args.length > 1 ? Integer.parseInt(args[1]) : 0;
        int wrong = 0;
        for (int seed = from; seed < from + runs && wrong < 5; seed++) {
            RandomRunsTest run = new RandomRunsTest(seed);
            run.go();
            if (run.wrong) {
                wrong++;
                System.out.println("seed " + seed + ": " + String.join(" ", run.told));
            }
        }
        System.out.println(runs + " runs, " + wrong + " wrong");
        System.exit(wrong == 0 ? 0 : 1);
    }

    private void go() throws Exception {
        int begin = most - below(3);
        int things = 1 + below(8);
        int people = 1 + below(6);
        for (int i = 0; i < begin; i++) {
            call("ticket", below(things), below(9) == 0 ? -1 : below(people));
        }
        int loves = below(40);
        for (int i = 0; i < loves; i++) {
            call("mend", 10 * below(people) + below(things), 0, below(100));
        }
        if (below(2) == 0) {
            tellLaw();
        }
        while (calls < CALLS && !wrong) {
            step();
        }
    }

    private int below(int n) {
        return random.nextInt(n);
    }

    private int person() {
        return below(7) == 0 ? -1 : below(6) / (1 + below(2));
    }

    private int number() {
        return below(10) == 0 ? below(14) - 1 : below(Math.max(1, model.w.tickets.size()));
    }

    private int draws() {
        return below(12) == 0 ? below(14) - 1 : below(model.w.in().size() + 1);
    }

    private int setIn() {
        int set = 0;
        for (int i : model.w.in()) {
            set |= below(2) << i;
        }
        return below(15) == 0 ? set ^ 1 << below(13) : set;
    }

    private int partOr(int n) {
        return below(15) == 0 ? below(5) - 2 : below(n);
    }

    private boolean dear() {
        return model.w.in().size() > 7;
    }

    private void step() throws Exception {
        switch (below(52)) {
            case 0: if (model.w.tickets.size() < most) { call("ticket", below(9), below(8) - 1); } break;
            case 1: if (model.w.tickets.size() < most) { call("tickets", shelf(), below(8) - 1, below(4)); } break;
            case 2: case 3: call("mend", below(6) * 10 + below(8), 0, below(102) - 1); break;
            case 4: call("mend", number(), 1 + below(3), below(4) - 1); break;
            case 5: call("mend", number(), 2, person()); break;
            case 6: call("of", below(2) == 0 ? number() : below(60), new int[] {0, 1, 2, 3, 10, 11, 4}[below(7)]); break;
            case 7: tellLaw(); break;
            case 8: if (below(6) == 0) { call("feed", below(300) - 10); } break;
            case 9: if (below(6) == 0) { call("law"); } break;
            case 10: call("loss", below(7), setIn()); break;
            case 11: case 12: call("mean", person(), draws(), partOr(2)); break;
            case 13: call("worst", below(6), draws(), partOr(4)); break;
            case 14: call("more", below(6), 2000 * draws() + 999 + below(200) - 60, partOr(2)); break;
            case 15: call("keeps", below(6) * 10 + below(9), draws(), partOr(2)); break;
            case 16: call("rid", number(), draws(), partOr(2)); break;
            case 17: if (!dear()) { call("given", number(), draws(), partOr(3)); } break;
            case 18: if (model.w.in().size() < 7) { call("swap", draws()); } break;
            case 19: if (!dear()) { call("cancel", draws()); } break;
            case 20: call("fairest", 10 * (below(3) == 0 ? draws() : below(3)) + below(5), below(14) - 2); break;
            case 21: call("syndicate", draws()); break;
            case 22: call("forged", below(6), draws(), partOr(2)); break;
            case 23: call("doubt", below(6), below(14)); break;
            case 24: call("odds", setIn(), draws(), partOr(2)); break;
            case 25: case 26: call("ahead", below(6), setIn(), partOr(3)); break;
            case 27: case 28: call("ring", below(6), partOr(2)); break;
            case 29: call("judge", shelf()); break;
            case 30: call("lost", shelf(), below(6)); break;
            case 31: call("whose", shelf(), 10 * number() + below(7), below(3) == 0 ? 0 : below(80)); break;
            case 32: call("drawn", random.nextInt(), 100 * below(21) + below(13), below(8) - 1); break;
            case 33: if (below(3) == 0) { call("draw", random.nextInt()); } break;
            case 34: call("give", number(), person()); break;
            case 35: call("cancels", 20 * number() + number()); break;
            case 36: if (below(3) == 0 || model.w.in().size() < 3) { call("year"); } break;
            case 37: call("led", below(17) - 1); break;
            case 38: call(below(2) == 0 ? "image" : "back"); break;
            case 39: backAndForth("undo", 2); break;
            case 40: backAndForth("redo", 4); break;
            case 41: call("body", below(9)); break;
            case 42: case 43: call("act", below(6), below(5), random.nextInt() >> below(32)); traceAll(); break;
            case 44: call("keep", shelf(), below(5) - 1); break;
            case 45: call("row", shelf(), below(6), below(14) - 1); break;
            case 46: sight(); break;
            case 47: call("put", shelf(), below(12) - 1, random.nextLong() >> below(64)); break;
            case 48: call("element", shelf(), below(12) - 1); break;
            case 49: call("shift", shelf(), below(6) - 1, shelf(), below(6) - 1, below(7) - 1); break;
            case 50: call("taken", shelf(), below(9)); break;
            default: if (below(4) == 0) { wildCall(); } else { call("count", below(7)); } break;
        }
    }

    private void backAndForth(String call, int rarely) throws Exception {
        int times = below(rarely) == 0 ? below(50) : 1;
        for (int i = 0; i < times; i++) {
            call(call);
        }
    }

    private int shelf() {
        return below(20) == 0 ? below(3) * 7 - 1 : below(4);
    }

    private void traceAll() throws Exception {
        call("count", 5);
        call("trace", below(26) - 1);
        call("trace", below(4));
    }

    /** A row of bytes with draws that could be. */
    private void sight() throws Exception {
        int shelf = below(4);
        int n = below(6);
        call("row", shelf, 0, n);
        List<Integer> in = model.w.in();
        for (int i = 0; i < n; i++) {
            int ticket = in.isEmpty() || below(12) == 0 ? below(14) - 1 : in.remove(below(in.size()));
            call("put", shelf, i, (long) ticket);
        }
    }

    private void tellLaw() throws Exception {
        String text = LAWS[below(LAWS.length)];
        if (below(4) == 0) {
            int at = below(text.length());
            text = text.substring(0, at) + "v;?|&<+*(!-)1".charAt(below(13)) + text.substring(at);
        }
        for (char c : text.toCharArray()) {
            call("feed", (int) c);
        }
        if (below(30) == 0) {
            return;
        }
        call("law");
    }

    private static final String[] DEAR = {"swap", "given", "cancel", "mean", "fairest"};

    private void wildCall() throws Exception {
        Method[] all = LotteryOfLosses.class.getDeclaredMethods();
        Arrays.sort(all, (a, b) -> a.getName().compareTo(b.getName()));
        Method m = all[below(all.length)];
        if (!java.lang.reflect.Modifier.isPublic(m.getModifiers()) || dear() && Arrays.asList(DEAR).contains(m.getName())) {
            return;
        }
        if (m.getName().equals("ticket") || m.getName().equals("tickets")) {
            return;
        }
        Object[] args = new Object[m.getParameterCount()];
        for (int i = 0; i < args.length; i++) {
            int v = below(3) == 0 ? below(3) : WILD[below(WILD.length)];
            args[i] = m.getParameterTypes()[i] == long.class ? (Object) (long) v : (Object) v;
        }
        call(m.getName(), args);
    }

    private void call(String name, Object... args) throws Exception {
        if (wrong || calls >= CALLS) {
            return;
        }
        calls++;
        Class<?>[] types = new Class<?>[args.length];
        for (int i = 0; i < args.length; i++) {
            types[i] = args[i] instanceof Long ? long.class : int.class;
        }
        String call = name + Arrays.toString(args);
        Object got;
        Object want;
        try {
            got = LotteryOfLosses.class.getMethod(name, types).invoke(real, args);
        } catch (InvocationTargetException e) {
            got = e.getCause();
        }
        Method plain = Model.class.getDeclaredMethod(name, types);
        want = plain.invoke(model, args);
        told.add(call + "=" + got);
        if (!got.equals(want)) {
            wrong = true;
            told.add("WRONG, due is " + want);
        }
    }
}
