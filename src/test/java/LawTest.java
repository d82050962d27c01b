import java.util.Map;
import java.util.Random;

/** Texts of laws: where a fault is, and what they come to, held against another way of reading them. */
public final class LawTest {
    private static final Random RANDOM = new Random(7);

    private LawTest() {
    }

    public static void main(String[] args) {
        told();
        values();
        for (int i = 0; i < 6000; i++) {
            String text = text();
            compare(i % 3 == 0 ? text : marred(text));
        }
        Due.end();
    }

    private static int read(LotteryOfLosses x, String text) {
        for (char c : text.toCharArray()) {
            x.feed(c);
        }
        return x.law();
    }

    private static void fault(String text, int fault) {
        Due.is("law() of " + text, read(new LotteryOfLosses(), text), fault < 0 ? 1 : -100 - fault);
    }

    private static void told() {
        fault("", 0);
        fault("v", -1);
        fault("vv", 1);
        fault("v;", 2);
        fault(";v", 0);
        fault("v?", 2);
        fault("v?n", -1);
        fault("v?n?g", 3);
        fault("v?n;g", -1);
        fault("(v?n)", 2);
        fault("(v;n)", 2);
        fault("1234", -1);
        fault("12345", 4);
        fault("v<n<g", 3);
        fault("(v<n)<g", -1);
        fault("v<n&n>g|g=t", -1);
        fault("v =n", 1);
        fault("v+*n", 2);
        fault("+v", 0);
        fault("v--n", -1);
        fault("v-!n", -1);
        fault("!", 1);
        fault("()", 1);
        fault("(v", 2);
        fault("v)", 1);
        fault("x", 0);
        fault("V", 0);
        fault("!!!!!!v", -1);
        fault("!!!!!!!v", 6);
        fault("((((((v))))))", -1);
        fault("(((((((v)))))))", 6);
        fault("(-!(-!(v", 6);
        fault("(-!(-!v))", -1);
        fault("(-!(-!-v))", 6);
        fault("!!!!!!v+!!!!!!v", -1);
        fault("-(v)+((((((v))))))", -1);
        fault("-((((((v))))))", 6);
        fault("\0", 0);
        fault("v\u00e9", 1);
        fault("v;".repeat(60), 120);
        fault("v;".repeat(58) + "v?n", -1);
        fault("(".repeat(6) + "1+".repeat(53) + "v))", 6 + 106 + 1 + 2);
    }

    private static int lossBy(String text, int thing, int one, int love) {
        LotteryOfLosses x = new LotteryOfLosses();
        x.ticket(thing, one);
        x.mend(10 * one + thing, 0, love);
        Due.is("law() of " + text, read(x, text), 1);
        return x.loss(one, 1);
    }

    private static void value(String text, int loss) {
        Due.is("loss by " + text, lossBy(text, 2, 3, 50), loss);
    }

    private static void values() {
        value("v", 50);
        value("n", 1);
        value("g", 0);
        value("t", 2);
        value("k", 3);
        value("d", 0);
        value("1+2*3", 7);
        value("(1+2)*3", 9);
        value("9-2-3", 4);
        value("90/7/2", 6);
        value("-7/2", -3);
        value("-7%4", -3);
        value("7%-4", 3);
        value("7/0", 0);
        value("7%0", 0);
        value("100", 99);
        value("0-100", -99);
        value("!0", 1);
        value("!5", 0);
        value("!-5+1", 1);
        value("--5", 5);
        value("3|0", 1);
        value("0|0", 0);
        value("3&2", 1);
        value("3&0", 0);
        value("1|1&0", 1);
        value("2<3", 1);
        value("3=3", 1);
        value("3>3", 0);
        value("1+1<1*3", 1);
        value("0?5;7", 7);
        value("2?5;7", 5);
        value("0?5", 0);
        value("0?5;0?6", 0);
        value("0-1?5;7", 5);
        value("7;8", 7);
        value("0?1;v<9?2;v>40?3;4", 3);
        value("9999*9999*9999/9999*9999%97", held(9999 * 9999 * 9999 / 9999 * 9999 % 97));
        value("9999*9999>0", 9999 * 9999 > 0 ? 1 : 0);
        value("9999*9999*30>0", 9999 * 9999 * 30 > 0 ? 1 : 0);
        LotteryOfLosses x = new LotteryOfLosses();
        x.ticket(0, 0);
        Due.is("law() of a fault", read(x, "7+"), -102);
        Due.is("loss without a law", x.loss(0, 1), 10);
        Due.is("law() of 7", read(x, "7"), 1);
        Due.is("law() of a fault", read(x, "8+"), -102);
        Due.is("count(2)", x.count(2), 0);
        Due.is("loss by the law that was", x.loss(0, 1), 7);
        Due.is("law() of 9", read(x, "9"), 1);
        Due.is("loss by the new law", x.loss(0, 1), 9);
    }

    private static int held(int loss) {
        return Math.max(-99, Math.min(99, loss));
    }

    private static void compare(String text) {
        int fault = LawText.fault(text);
        LotteryOfLosses x = new LotteryOfLosses();
        Due.is("law() of " + text, read(x, text), fault < 0 ? 1 : -100 - fault);
        if (fault >= 0) {
            return;
        }
        int one = RANDOM.nextInt(6);
        int love = RANDOM.nextInt(100);
        int[] things = new int[1 + RANDOM.nextInt(5)];
        for (int i = 0; i < things.length; i++) {
            things[i] = RANDOM.nextInt(8);
            x.ticket(things[i], one);
            x.mend(10 * one + things[i], 0, love);
        }
        int lost = 0;
        int all = 0;
        for (int i = 0; i < things.length; i++) {
            if ((lost >> things[i] & 1) == 0) {
                all += LawText.loss(text, Map.of('v', love, 'n', things.length, 'g', Integer.bitCount(lost), 't', things[i],
                    'k', one, 'd', i));
                lost |= 1 << things[i];
            }
        }
        Due.is("loss by " + text, x.loss(one, (1 << things.length) - 1), all);
    }

    private static String text() {
        StringBuilder text = new StringBuilder();
        int lines = 1 + RANDOM.nextInt(3);
        for (int i = 0; i < lines; i++) {
            text.append(i == 0 ? "" : ";");
            if (RANDOM.nextBoolean()) {
                text.append(part(0)).append('?');
            }
            text.append(part(0));
        }
        return text.length() > 120 ? text.substring(0, 120) : text.toString();
    }

    private static String part(int depth) {
        switch (RANDOM.nextInt(depth > 6 ? 2 : 9)) {
            case 0: return "" + RANDOM.nextInt(1 << 1 + RANDOM.nextInt(12));
            case 1: return "" + "vngtkd".charAt(RANDOM.nextInt(6));
            case 2: return "!" + part(depth + 1);
            case 3: return "-" + part(depth + 1);
            case 4: return "(" + part(depth + 1) + ")";
            default: return part(depth + 2) + "|&<=>+-*/%".charAt(RANDOM.nextInt(10)) + part(depth + 2);
        }
    }

    private static String marred(String text) {
        int at = RANDOM.nextInt(text.length() + 1);
        int kept = Math.min(text.length(), at + RANDOM.nextInt(3));
        char put = "vngtkd019;?|&<=>+-*/%(!-) x\0\u00ff".charAt(RANDOM.nextInt(29));
        String all = text.substring(0, at) + put + text.substring(kept);
        return all.length() > 120 ? all.substring(0, 120) : all;
    }
}
