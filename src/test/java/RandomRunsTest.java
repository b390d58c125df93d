import java.lang.reflect.Method;
import java.util.Arrays;
import java.util.HashMap;
import java.util.List;
import java.util.Map;
import java.util.Random;

/** Runs of some 490 calls drawn by lot (an object answers for 512), held against PlainBench call by call. */
public final class RandomRunsTest {
    private static final String[] NAMES = {"bench", "sitter", "told", "as", "turns", "sits", "rises", "who", "cushion",
        "rule", "deal", "seed", "minutes", "inn", "goes", "game", "worthy", "behind", "fullUp", "rose", "book", "fee",
        "fine", "feed", "trim", "text", "textTold", "why", "sheet", "mark", "pour", "reads", "copy", "lay", "ask",
        "item", "rest", "tell", "check", "keep", "back", "count"};
    private static final int[] WEIGHTS = {3, 12, 20, 6, 6, 40, 10, 8, 15,
        10, 2, 3, 8, 12, 10, 8, 8, 12, 4, 4, 8, 6,
        6, 3, 4, 3, 5, 5, 8, 30, 6, 6, 10, 12, 10,
        12, 6, 6, 3, 3, 2, 12};
    private static final int[] ODD = {Integer.MIN_VALUE, Integer.MAX_VALUE, -1, 1000000, -1000000005, 100000, -100000,
        -99999, 99999, 32768, 65536, -32769, 0};
    private static final String[] ATOMS = {"p", "c", "s", "t", "m", "0", "1", "7", "99", "9999", "0012"};
    private static final String SIGNS = "|&<=>+-*/";

    private final Random lot;
    private final Map<String, Method> plainWays = new HashMap<>();
    private final Map<String, Method> ways = new HashMap<>();
    private BenchSeats x;
    private PlainBench y;
    private int calls;
    private int wrong;
    private int total;

    private RandomRunsTest(long seed) {
        lot = new Random(seed);
        for (Method m : PlainBench.class.getDeclaredMethods()) {
            plainWays.put(m.getName(), m);
        }
        for (Method m : BenchSeats.class.getMethods()) {
            ways.put(m.getName(), m);
        }
        for (int w : WEIGHTS) {
            total += w;
        }
    }

    private int upTo(int n) {
        return lot.nextInt(n + 1);
    }

    /** Mostly within the bounds, now and then one beyond them, seldom far off. */
    private int about(int least, int most) {
        int way = lot.nextInt(30);
        if (way == 0) {
            return least - 1;
        }
        if (way == 1) {
            return most + 1;
        }
        if (way == 2) {
            return ODD[lot.nextInt(ODD.length)];
        }
        return least + lot.nextInt(most - least + 1);
    }

    private int someSitter() {
        return about(0, Math.max(0, y.count(0) - 1));
    }

    private int somePlace() {
        return about(0, y.count(1) - 1);
    }

    private int[] argumentsOf(String name) {
        switch (name) {
            case "bench": return new int[] {lot.nextBoolean() ? about(1, 12) : about(1, 3), about(0, 1), about(0, 1)};
            case "sitter": return new int[] {about(0, 5)};
            case "told": return new int[] {someSitter(), about(0, 6)};
            case "as": case "turns": return new int[] {someSitter(), about(0, 5)};
            case "sits": return new int[] {someSitter(), somePlace()};
            case "rises": case "fine": return new int[] {someSitter()};
            case "who": return new int[] {somePlace()};
            case "cushion": return new int[] {somePlace(), about(0, 99)};
            case "rule": int what = about(0, 3);
                return new int[] {what, what == 1 ? about(0, 2) : about(0, lot.nextBoolean() ? 100 : 30)};
            case "deal": return new int[] {about(1, 12)};
            case "seed": return new int[] {lot.nextInt()};
            case "minutes": return new int[] {lot.nextInt(3) == 0 ? about(1, 100) : about(1, 5)};
            case "inn": return new int[] {about(0, 3)};
            case "goes": return new int[] {about(0, 2)};
            case "game": case "worthy": return new int[] {about(0, 1)};
            case "behind": return new int[] {about(0, 100), about(0, 2 + y.count(0))};
            case "rose": return new int[] {about(1, 60), about(0, 1)};
            case "fullUp": case "fee": case "text": case "keep": case "back": return new int[0];
            case "feed": return new int[] {lot.nextInt(), lot.nextInt(), lot.nextInt()};
            case "trim": return new int[] {about(0, y.count(11))};
            case "textTold": return new int[] {about(0, Math.max(0, y.count(9) - 1)), about(0, 1)};
            case "why": return new int[] {about(0, 2)};
            case "sheet": return new int[] {about(0, 3), about(-1, 1), about(0, 24)};
            case "mark": return new int[] {about(0, 3), about(0, 12), someMark()};
            case "book": case "pour": case "reads": return new int[] {about(0, 3)};
            case "copy": return new int[] {about(0, 3), about(0, 10), about(0, 3), about(0, 10), about(0, 10)};
            case "lay": return new int[] {about(0, 4), about(0, 3), about(0, 4)};
            case "ask": return new int[] {about(0, 4), about(0, 5)};
            case "item": return new int[] {about(0, 4), about(0, 12)};
            case "rest": return new int[] {about(0, 4), about(-3, 9)};
            case "tell": return new int[] {about(0, 63)};
            case "check": return new int[] {about(1, 30)};
            default: return new int[] {about(0, 12)};
        }
    }

    private int someMark() {
        switch (lot.nextInt(5)) {
            case 0: return BenchSeats.NONE;
            case 1: return y.pennies(lot.nextInt(12));
            case 2: return about(-200, 200);
            default: return about(0, 11);
        }
    }

    private String someE(int depth) {
        StringBuilder s = new StringBuilder();
        int many = 1 + lot.nextInt(3);
        for (int i = 0; i < many; i++) {
            if (i > 0) {
                s.append(SIGNS.charAt(lot.nextInt(SIGNS.length())));
            }
            if (lot.nextInt(4) == 0) {
                s.append(' ');
            }
            int way = lot.nextInt(6);
            if (way == 0 && depth > 0) {
                s.append('(').append(someE(depth - 1)).append(')');
            } else if (way == 1 && depth > 0) {
                s.append("!(").append(someE(depth - 1)).append(')');
            } else {
                s.append(lot.nextInt(5) == 0 ? "!" : "").append(ATOMS[lot.nextInt(ATOMS.length)]);
            }
        }
        return s.toString();
    }

    private String someText() {
        String key = new String[] {"fare", "fee", "fine"}[lot.nextInt(3)];
        StringBuilder s = new StringBuilder(key).append(' ');
        int nest = lot.nextInt(20) == 0 ? 7 + lot.nextInt(3) : 0;
        String opening = lot.nextInt(3) == 0 ? "!" : lot.nextBoolean() ? "(" : "!(";
        for (int i = 0; i < nest; i++) {
            s.append(opening);
        }
        String names = key.equals("fare") ? "pcs" : key.equals("fee") ? "tm" : "ps";
        String body = someE(nest > 0 ? 0 : 2);
        for (char c : body.toCharArray()) {
            boolean isName = c >= 'a' && c <= 'z';
            s.append(isName && lot.nextInt(10) > 0 ? names.charAt(lot.nextInt(names.length())) : c);
        }
        for (int i = 0; i < nest && opening.endsWith("("); i++) {
            s.append(')');
        }
        if (lot.nextInt(3) == 0) {
            int at = lot.nextInt(s.length());
            String odd = "|&<=>+-*/!() 09apcstm" + (char) 200 + "F";
            switch (lot.nextInt(3)) {
                case 0: s.deleteCharAt(at); break;
                case 1: s.setCharAt(at, odd.charAt(lot.nextInt(odd.length()))); break;
                default: s.insert(at, odd.charAt(lot.nextInt(odd.length())));
            }
        }
        return s.length() > 96 ? s.substring(0, 96) : s.toString();
    }

    private void call(String name, int... args) throws ReflectiveOperationException {
        Object[] boxed = Arrays.stream(args).boxed().toArray();
        int got = (Integer) ways.get(name).invoke(x, boxed);
        int due = (Integer) plainWays.get(name).invoke(y, boxed);
        calls++;
        if (got != due) {
            wrong++;
            System.out.println("call " + calls + " " + name + Arrays.toString(args) + " answered " + got + ", due is "
                + due);
        }
    }

    private void tellText() throws ReflectiveOperationException {
        String bytes = someText();
        if (y.count(11) + bytes.length() + 12 > 96) {
            call("trim", 0);
        }
        int had = y.count(11);
        for (int i = 0; i < bytes.length(); i += 12) {
            call("feed", Due.four(bytes, i), Due.four(bytes, i + 4), Due.four(bytes, i + 8));
        }
        call("trim", had + bytes.length());
        call("text");
    }

    /** Tells the minutes as they will be, now and then with one number off, too few or too many. */
    private void tellMinutes() throws ReflectiveOperationException {
        int n = 1 + lot.nextInt(8);
        List<Integer> due = y.toldRight(n);
        int off = lot.nextInt(3) == 0 && !due.isEmpty() ? lot.nextInt(due.size()) : -1;
        int few = lot.nextInt(5) == 0 ? 1 : 0;
        for (int i = 0; i < due.size() - few; i++) {
            call("tell", due.get(i) + (i == off ? 1 : 0));
        }
        if (lot.nextInt(5) == 0) {
            call("tell", 0);
        }
        call("check", n);
    }

    private String drawName() {
        int left = lot.nextInt(total);
        for (int i = 0; i < NAMES.length; i++) {
            left -= WEIGHTS[i];
            if (left < 0) {
                return NAMES[i];
            }
        }
        return "count";
    }

    private void run() throws ReflectiveOperationException {
        x = new BenchSeats();
        y = new PlainBench();
        int until = calls + 470;
        if (lot.nextInt(4) > 0) {
            call("deal", 1 + upTo(11));
        }
        if (lot.nextInt(6) == 0) {
            for (int i = 0; i < 99; i++) {
                call("minutes", 100);
            }
            until += 20;
        }
        while (calls < until) {
            int way = lot.nextInt(40);
            if (way == 0) {
                tellText();
            } else if (way == 1) {
                tellMinutes();
            } else {
                String name = drawName();
                call(name, argumentsOf(name));
            }
        }
    }

    public static void main(String[] args) throws ReflectiveOperationException {
        int runs = args.length > 0 ? Integer.parseInt(args[0]) : 300;
        int calls = 0;
        int wrong = 0;
        for (int i = 0; i < runs; i++) {
            RandomRunsTest test = new RandomRunsTest(i);
            test.run();
            calls += test.calls;
            wrong += test.wrong;
            if (test.wrong > 0) {
                System.out.println("in run " + i + ": " + test.wrong + " answers are not as due");
            }
        }
        System.out.println("RandomRunsTest: " + calls + " calls, " + wrong + " answers not as due");
        if (wrong != 0 || calls == 0) {
            System.exit(1);
        }
    }
}
