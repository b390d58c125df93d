/** The boundary cases of promises 25 to 29: the tape and texts; and of 23, where what a text gives is seen. */
public final class TextEdgesTest {
    private static final int BAD = BenchSeats.BAD, FULL = BenchSeats.FULL, NONE = BenchSeats.NONE;
    private static final int LOW = Integer.MIN_VALUE, HIGH = Integer.MAX_VALUE;
    private static final int IS_TEXT = -1;
    private static final String JOINING = "|&<=>+-*/";
    private static final Edge due = new Edge();

    /** A text of so many bytes: ones and signs. */
    private static String ofLength(int length) {
        StringBuilder s = new StringBuilder(length % 2 == 0 ? "fee 10" : "fee 1");
        while (s.length() < length) {
            s.append("+1");
        }
        return s.toString();
    }

    private static String times(String one, int many) {
        return new String(new char[many]).replace("\0", one);
    }

    private static void feed() {
        BenchSeats x = new BenchSeats();
        for (int i = 1; i <= 8; i++) {
            due.is(25, "how many it has", x.feed(i, LOW, HIGH), 12 * i);
        }
        due.is(25, "96 are all", x.count(11), 96);
        for (int length : new int[] {85, 86, 95, 96}) {
            String text = ofLength(length);
            for (int v : new int[] {0, -1, LOW, HIGH, 0x20202020}) {
                due.refused(25, "twelve more than " + length, y -> {
                    y.trim(0);
                    Due.feed(y, text);
                }, y -> y.feed(v, v, v), FULL);
            }
        }
        for (int length : new int[] {0, 1, 83, 84}) {
            x = new BenchSeats();
            Due.feed(x, times(" ", length));
            due.is(25, "twelve more than " + length, x.feed(0, 0, 0), length + 12);
        }
        x = new BenchSeats();
        x.feed(0x66656520, 0x742b3132, 0x2d373334);
        due.is(25, "the highest first", x.text(), 0);
        due.is(25, "fee t+12-734", x.fee(), 12 - 734);
        for (int v : new int[] {-1, LOW, 0x80000000, 0xe4202020}) {
            x = new BenchSeats();
            x.feed(0x66656520, v, v);
            due.is(25, "bytes above 127 are signs", x.text(), -104);
        }
    }

    private static void trim() {
        for (int n : new int[] {-1, 10, LOW, HIGH, 96, 97}) {
            due.refused(26, "trim " + n + " of 9", x -> x.trim(n), BAD);
        }
        due.refused(26, "trim 97 of 96", x -> {
            x.trim(0);
            Due.feed(x, ofLength(96));
        }, x -> x.trim(97), BAD);
        due.asks(26, "all of 9 stay", x -> { }, x -> x.trim(9), 9);
        BenchSeats x = new BenchSeats();
        due.is(26, "none of none", x.trim(0), 0);
        due.is(26, "one of none", x.trim(1), BAD);
        Due.feed(x, ofLength(96));
        due.is(26, "all of 96", x.trim(96), 96);
        due.is(26, "the last goes", x.trim(95), 95);
        due.is(26, "how many it has", x.count(11), 95);
        due.is(26, "no more than it has", x.trim(96), BAD);
        due.is(26, "all go", x.trim(0), 0);
        due.is(26, "nothing is there", x.text(), -100);
        Due.feed(x, "fee t+1");
        due.is(26, "its first 5", x.trim(5), 5);
        Due.feed(x, "*2-9");
        due.is(26, "what comes then stands right behind them", x.text(), 0);
        due.is(26, "fee t*2-9", x.fee(), -9);
    }

    /** What text() answers for these bytes, if the place of their fault is this. */
    private static void reads(String bytes, int fault) {
        BenchSeats x = new BenchSeats();
        due.is(27, "\"" + bytes + "\"", Due.text(x, bytes), fault == IS_TEXT ? 0 : -100 - fault);
        due.is(27, "\"" + bytes + "\": the tape is used up", x.count(11), 0);
        due.is(27, "\"" + bytes + "\": how many TEXTS", x.count(9), fault == IS_TEXT ? 1 : 0);
    }

    private static boolean isDigit(int one) {
        return one >= '0' && one <= '9';
    }

    private static boolean isLetter(int one) {
        return one >= 'a' && one <= 'z';
    }

    /** Every byte in every position of the grammar. */
    private static void everyByte() {
        for (int one = 0; one < 256; one++) {
            String s = String.valueOf((char) one);
            boolean isBlank = one == 32;
            boolean joins = JOINING.indexOf(one) >= 0;
            boolean compares = one == '<' || one == '=' || one == '>';
            boolean opens = one == '(' || one == '!';
            boolean goesOn = isBlank || isDigit(one);
            reads(s, isBlank ? 1 : 0);
            reads("fare" + s, isLetter(one) ? 0 : isBlank || opens ? 5 : 4);
            reads("fee" + s, isLetter(one) ? 0 : isBlank || opens ? 4 : 3);
            reads("fine" + s, isLetter(one) ? 0 : isBlank || opens ? 5 : 4);
            reads("fee " + s, isDigit(one) || one == 't' || one == 'm' ? IS_TEXT : isBlank || opens ? 5 : 4);
            reads("fare " + s, isDigit(one) || "pcs".indexOf(one) >= 0 ? IS_TEXT : isBlank || opens ? 6 : 5);
            reads("fine " + s, isDigit(one) || "ps".indexOf(one) >= 0 ? IS_TEXT : isBlank || opens ? 6 : 5);
            reads("fee 1" + s, goesOn ? IS_TEXT : joins ? 6 : 5);
            reads("fee t" + s, isBlank ? IS_TEXT : joins ? 6 : isLetter(one) ? 4 : 5);
            reads("fee 1 " + s, isBlank ? IS_TEXT : joins ? 7 : 6);
            reads("fee (1" + s, goesOn || joins ? 7 : one == ')' ? IS_TEXT : 6);
            reads("fee (1)" + s, isBlank ? IS_TEXT : joins ? 8 : 7);
            reads("fee 1<1" + s, goesOn ? IS_TEXT : joins && !compares ? 8 : 7);
            reads("fee 1<1+1" + s, goesOn ? IS_TEXT : joins && !compares ? 10 : 9);
            reads("fee 1<1&1" + s, goesOn ? IS_TEXT : joins ? 10 : 9);
            reads("fee 1<1|1" + s, goesOn ? IS_TEXT : joins ? 10 : 9);
            reads("fee 1<(1" + s, goesOn || joins ? 9 : one == ')' ? IS_TEXT : 8);
            reads("fee !" + s, isDigit(one) || one == 't' || one == 'm' ? IS_TEXT : isBlank || opens ? 6 : 5);
            reads("fee 1+" + s, isDigit(one) || one == 't' || one == 'm' ? IS_TEXT : isBlank || opens ? 7 : 6);
            reads("fee (" + s, isDigit(one) || one == 't' || one == 'm' || isBlank || opens ? 6 : 5);
        }
    }

    private static void words() {
        reads("", 0);
        reads("   ", 3);
        reads(times(" ", 96), 96);
        reads("fee", 3);
        reads(" fee", 4);
        reads("fee" + times(" ", 93), 96);
        reads(times(" ", 92) + "fee1", 95);
        reads(times(" ", 91) + "fee 1", IS_TEXT);
        reads("fee" + times(" ", 92) + "1", IS_TEXT);
        reads("far 1", 0);
        reads("fares 1", 0);
        reads("fe 1", 0);
        reads("feet", 0);
        reads("fin 1", 0);
        reads("fines 1", 0);
        reads("  fore 1", 2);
        reads("f are 1", 0);
        reads("Fare 1", 0);
        reads("1fare", 0);
        reads("(fare 1)", 0);
        reads("fare fare 1", 5);
        reads("fee tm", 4);
        reads("fee t m", 6);
        reads("fee t1", 5);
        reads("fee 1t", 5);
        reads("fee 1 t", 6);
        reads("fee 1 1", 6);
        reads("fee(t)", IS_TEXT);
        reads("fee!t", IS_TEXT);
        reads(" fee  (  t  )  +  ! 1 ", IS_TEXT);
    }

    private static void numbers() {
        reads("fee 0", IS_TEXT);
        reads("fee 0000", IS_TEXT);
        reads("fee 9999", IS_TEXT);
        reads("fee 00000", 4);
        reads("fee 10000", 4);
        reads("fee " + times("1", 92), 4);
        reads("fee 1+12345+1", 6);
        reads("fee (12345", 5);
        reads("fee 1 12345", 6);
    }

    private static void nesting() {
        reads("fee " + times("(", 8) + "1" + times(")", 8), IS_TEXT);
        reads("fee " + times("(", 9) + "1" + times(")", 9), 12);
        reads("fee " + times("(", 9), 12);
        reads("fee " + times("(", 8), 12);
        reads("fee " + times("!", 8) + "1", IS_TEXT);
        reads("fee " + times("!", 9) + "1", 12);
        reads("fee " + times("!", 8), 12);
        reads("fee " + times("!(", 8) + "1" + times(")", 8), IS_TEXT);
        reads("fee " + times("(!", 8) + "1" + times(")", 8), IS_TEXT);
        reads("fee " + times("!(", 8) + "!1" + times(")", 8), 20);
        reads("fee " + times("!(", 8) + "(1" + times(")", 9), 20);
        reads("fee " + times("!", 8) + "(1+1)+!1", IS_TEXT);
        reads("fee " + times("!", 8) + "(1+!1)", 4 + 8 + 3);
        reads("fee " + times("!", 7) + "(1+!1)", IS_TEXT);
        reads("fee " + times("(", 7) + "1+(1)+(1)" + times(")", 7), IS_TEXT);
        reads("fee " + times("(", 8) + "1+(1)" + times(")", 8), 4 + 8 + 2);
        reads("fee (1)" + times("+(1)", 20), IS_TEXT);
        reads("fee !1" + times("+!1", 20), IS_TEXT);
        reads("fee " + times("(", 8) + "1" + times(")", 8) + "+" + times("(", 8) + "1" + times(")", 8), IS_TEXT);
        reads("fee " + times("(", 8) + "1" + times(")", 9), 4 + 17);
        reads("fee )", 4);
        reads("fee 1)", 5);
        reads("fee ()", 5);
        reads("fee (1", 6);
        reads("fee (1+)", 7);
        reads("fee !)", 5);
        reads("fee 1!1", 5);
        reads("fee 1(1)", 5);
        reads("fee (1)(1)", 7);
        reads("fee (1<1)<(1<1)", IS_TEXT);
        reads("fee (1<1)<1<1", 11);
        reads("fee 1<!1<1", 8);
        reads("fee 1=1*1-1>1", 11);
        reads("fee 1<1&1<1|1<1&1<1<1", 19);
    }

    /** Each key with each of its letters another one, or one letter too few or too many. */
    private static void keys() {
        for (String key : new String[] {"fare", "fee", "fine"}) {
            reads(key + " 1", IS_TEXT);
            for (int i = 0; i < key.length(); i++) {
                for (char other : new char[] {'a', 'e', 'f', 'z', 'F', 'A', 'E', '1', '(', (char) 230}) {
                    String word = key.substring(0, i) + other + key.substring(i + 1);
                    if (!word.equals(key)) {
                        reads(word + " 1", 0);
                    }
                }
                reads(key.substring(0, i) + key.substring(i + 1) + " 1", 0);
                reads(key.substring(0, i) + "e" + key.substring(i) + "e 1", 0);
            }
        }
    }

    /** What one text leaves open, or how it ends, is nothing to the next one. */
    private static void oneBehindAnother() {
        String[] first = {"fee (((1", "fee " + times("(", 8), "fee " + times("!", 8), "fee 1<1<", "fee 1|2&3<4+5*",
            "fee t", "fee 12", "fee (t)", "fee t ", "fine", "fee 1+", "fee " + times("!(", 8) + "1", "f", "", "fee 1 1",
            ofLength(96)};
        String[] then = {"fee 1)", "fee " + times("(", 8) + "1" + times(")", 8), "fee " + times("!", 8) + "7", "fee 1<2",
            "fee 3", "fee1", "fee", "fine t", "1", "fee !0*6", "fee (1", "fee t+", " fee 9 "};
        int[] faults = {5, IS_TEXT, IS_TEXT, IS_TEXT, IS_TEXT, 3, 3, 5, 0, IS_TEXT, 6, 6, IS_TEXT};
        int[] gives = {0, 1, 1, 1, 3, 0, 0, 0, 0, 6, 0, 0, 9};
        for (String one : first) {
            for (int i = 0; i < then.length; i++) {
                BenchSeats x = new BenchSeats();
                Due.text(x, one);
                int texts = x.count(9);
                int want = faults[i] == IS_TEXT ? texts : -100 - faults[i];
                String which = "\"" + then[i] + "\" behind \"" + one + "\"";
                due.is(27, which, Due.text(x, then[i]), want);
                if (faults[i] == IS_TEXT) {
                    due.is(23, which + " gives", x.fee(), gives[i]);
                }
            }
        }
    }

    private static void longest() {
        reads(ofLength(96), IS_TEXT);
        reads(ofLength(95), IS_TEXT);
        reads("fee 1" + times("+1", 45) + "+", 96);
        reads("fee 10" + times("+1", 44) + "+)", 95);
        reads("fee " + times("1|1&1<1+1*(", 8), 92);
        reads("fee 1" + times(" ", 90) + "1", 95);
    }

    /** The refusals of text(): all is as it would be with the tape thrown away. */
    private static void textRefusals() {
        String[] faulty = {"", "fee", "fee 1+", "fare t", "fee 12345"};
        int[] places = {0, 3, 6, 5, 4};
        for (int i = 0; i < faulty.length; i++) {
            String bytes = faulty[i];
            for (int texts : new int[] {3, 14}) {
                due.leaves(27, "\"" + bytes + "\" with " + texts + " TEXTS", x -> {
                    Edge.livedIn(x);
                    x.trim(0);
                    tellTexts(x, texts);
                    Due.feed(x, bytes);
                }, BenchSeats::text, -100 - places[i], x -> x.trim(0));
            }
        }
        for (String bytes : new String[] {"fee 1", "fare 1", "fine 1", ofLength(96)}) {
            due.leaves(27, "a fifteenth", x -> {
                Edge.livedIn(x);
                x.trim(0);
                tellTexts(x, 14);
                Due.feed(x, bytes);
            }, BenchSeats::text, FULL, x -> x.trim(0));
        }
    }

    private static void tellTexts(BenchSeats x, int upTo) {
        for (int t = x.count(9); t < upTo; t++) {
            due.is(27, "its number", Due.text(x, "fee t+" + t), t);
        }
    }

    private static void gives(int want, String text) {
        BenchSeats x = new BenchSeats();
        due.is(23, "\"" + text + "\" is a TEXT", Due.text(x, text), 0);
        due.is(23, "\"" + text + "\" gives", x.fee(), want);
    }

    private static void values() {
        gives(HIGH, "fee 8192*8192*32-1");
        gives(LOW, "fee 8192*8192*32");
        gives(HIGH, "fee 0-8192*8192*32-1");
        gives(LOW, "fee 8192*8192*32-1+1");
        gives(0, "fee 8192*8192*64");
        gives(LOW, "fee 8192*8192*32/(0-1)");
        gives(1, "fee 8192*8192*32<0");
        gives(0, "fee 1/0");
        gives(0, "fee 0/0");
        gives(0, "fee 8192*8192*32/0");
        gives(-3, "fee (0-7)/2");
        gives(-3, "fee 7/(0-2)");
        gives(3, "fee (0-7)/(0-2)");
        gives(0, "fee 1/2");
        gives(1, "fee 1|0");
        gives(1, "fee 0|9999");
        gives(1, "fee 5|6");
        gives(0, "fee 0|0");
        gives(1, "fee 5&6");
        gives(1, "fee (0-1)&2");
        gives(0, "fee 0&6");
        gives(0, "fee 6&0");
        gives(0, "fee 0&0");
        gives(1, "fee !0");
        gives(0, "fee !1");
        gives(0, "fee !(0-1)");
        gives(1, "fee !!9999");
        gives(0, "fee !!!!!!!!0");
        gives(1, "fee !!!!!!!0");
        gives(1, "fee 1<2");
        gives(0, "fee 2<2");
        gives(0, "fee 3<2");
        gives(1, "fee 2=2");
        gives(0, "fee 2=3");
        gives(0, "fee 2>2");
        gives(1, "fee 3>2");
        gives(0, "fee 1>2");
        gives(1, "fee 0-1<0");
        gives(7, "fee 1+2*3");
        gives(5, "fee 10-3-2");
        gives(2, "fee 100/10/5");
        gives(3, "fee 7/2*1");
        gives(4, "fee 8*2/4");
        gives(1, "fee 1|1&0");
        gives(0, "fee (1|1)&0");
        gives(1, "fee 1&2=2");
        gives(1, "fee 1+1=2");
        gives(0, "fee 1+(1=2)-1");
        gives(2, "fee !0+1");
        gives(0, "fee !(0+1)");
        gives(2, "fee (1|0)+1");
        gives(5, "fee (0|0)+5");
        gives(6, "fee (2&3)+5");
        gives(5, "fee (1&0)+5");
        gives(7, "fee (2<3)*7");
        gives(9, "fee (1+2)*3");
        gives(12, "fee (8/2)*3");
        gives(4, "fee !(0|1)+4");
        gives(5, "fee !(0&1)+4");
        gives(4, "fee 2*(3-1)");
        gives(9, "fee 10-(3-2)");
        gives(50, "fee 100/(10/5)");
        gives(2, "fee (((1|0)))+1");
        gives(8, "fee 7*(1|1)+1");
        gives(1, "fee 0&1|1");
        gives(0, "fee 0&(1|1)");
        gives(1, "fee 2>1&1<2|0");
        gives(-6, "fee 3*(1-(2+(0|1)))");
        // As many signs as 96 bytes can keep waiting: none of them is lost.
        gives(1, "fee " + times("0|1&0<0+2*(", 7) + "5" + times(")", 7));
        gives(0, "fee " + times("0|1&0<0+2*(", 7) + "0" + times(")", 7));
        gives(23, "fee 7+16*(" + times("0|1&0<0+2*(", 6) + "5" + times(")", 7));
        gives(1023, "fee " + times("1+2*(", 8) + "3" + times(")", 8));
        gives(0, "fee " + times("0|!(", 8) + "0" + times(")", 8));
        gives(0, "fee 0000");
        gives(12, "fee 0012");
        gives(9999, "fee 9999");
        gives(8, "fee ((((((((8))))))))");
        gives(55, ofLength(96));
    }

    private static void textTold() {
        int[][] wrong = {{-1, 0}, {3, 0}, {LOW, 0}, {HIGH, 0}, {0, -1}, {0, 2}, {2, LOW}, {2, HIGH}, {3, 2}, {-1, -1},
            {13, 0}, {14, 0}};
        for (int[] w : wrong) {
            due.refused(28, "textTold " + w[0] + " " + w[1], x -> x.textTold(w[0], w[1]), BAD);
        }
        due.is(28, "without TEXTS", new BenchSeats().textTold(0, 0), BAD);
        for (int t = 0; t < 3; t++) {
            int text = t;
            due.asks(28, "KEY of " + t, x -> { }, x -> x.textTold(text, 0), t);
            due.asks(28, "NUMBERS and NAMES of " + t, x -> { }, x -> x.textTold(text, 1), t == 2 ? 2 : 3);
        }
        BenchSeats x = new BenchSeats();
        String[] texts = {"fine 0", "fare ((!!(5)))", "fee t+t*m-12/1234", ofLength(96), "fee !t", "fine p+s&p",
            "fare p*c*s*p"};
        int[] keys = {2, 0, 1, 1, 1, 2, 0};
        int[] things = {1, 1, 5, 46, 1, 3, 4};
        for (int t = 0; t < 14; t++) {
            Due.text(x, texts[t % 7]);
        }
        for (int t = 0; t < 14; t++) {
            due.is(28, "KEY of \"" + texts[t % 7] + "\"", x.textTold(t, 0), keys[t % 7]);
            due.is(28, "NUMBERS and NAMES of \"" + texts[t % 7] + "\"", x.textTold(t, 1), things[t % 7]);
        }
        due.is(28, "none behind the last of fourteen", x.textTold(14, 0), BAD);
    }

    private static void why() {
        for (int key : new int[] {-1, 3, LOW, HIGH}) {
            due.refused(29, "why " + key, x -> x.why(key), BAD);
        }
        String[] keys = {"fare", "fee", "fine"};
        for (int key = 0; key < 3; key++) {
            int one = key;
            due.is(29, "without TEXTS", new BenchSeats().why(key), NONE);
            due.asks(29, "KEY " + key, x -> { }, x -> x.why(one), key);
            BenchSeats x = new BenchSeats();
            Due.text(x, keys[key] + " 1");
            for (int other = 0; other < 3; other++) {
                due.is(29, "of its own KEY alone", x.why(other), other == key ? 0 : NONE);
            }
            for (int t = 1; t < 14; t++) {
                Due.text(x, keys[key] + " 2");
                due.is(29, "that was told last", x.why(key), t);
            }
            Due.text(x, keys[key] + " 3");
            due.is(29, "not one that was refused", x.why(key), 13);
            Due.text(x, keys[key]);
            due.is(29, "nor one with a FAULT", x.why(key), 13);
        }
    }

    public static void main(String[] args) {
        feed();
        trim();
        everyByte();
        words();
        numbers();
        nesting();
        keys();
        oneBehindAnother();
        longest();
        textRefusals();
        values();
        textTold();
        why();
        due.end("TextEdgesTest", 23, 25, 26, 27, 28, 29);
    }
}
