/** The boundary cases of promises 39 to 43: rows, images, counts; and the 512 calls of an object. */
public final class ImageEdgesTest {
    private static final int BAD = BenchSeats.BAD, NO = BenchSeats.NO, FULL = BenchSeats.FULL, NONE = BenchSeats.NONE;
    private static final int LOW = Integer.MIN_VALUE, HIGH = Integer.MAX_VALUE;
    private static final int SITTER = 0, WIDE = 1, FRIEND = 2;
    private static final Edge due = new Edge();

    /** Minutes as the image will tell them, two numbers each. */
    private static int[] told(int many) {
        int[] rows = new int[2 * many];
        BenchSeats x = new BenchSeats();
        busy(x);
        for (int i = 0; i < many; i++) {
            x.minutes(1);
            rows[2 * i] = x.inn(0);
            rows[2 * i + 1] = x.inn(1);
        }
        return rows;
    }

    /** An inn where much is done in each minute. */
    private static void busy(BenchSeats x) {
        x.deal(9);
        x.rule(2, 80);
        x.rule(3, 60);
        Due.text(x, "fare p+s");
    }

    /** The busy inn kept, and another one instead of it now. */
    private static BenchSeats kept() {
        BenchSeats x = new BenchSeats();
        busy(x);
        x.keep();
        x.bench(2, 1, 1);
        x.seed(99);
        x.rule(2, 0);
        Due.text(x, "fare 50");
        return x;
    }

    private static void tellAll(BenchSeats x, int[] rows, int many) {
        for (int i = 0; i < many; i++) {
            x.tell(rows[i]);
        }
    }

    private static void tell() {
        BenchSeats x = new BenchSeats();
        int[] odd = {0, -1, LOW, HIGH, BAD, NONE};
        for (int i = 1; i <= 60; i++) {
            due.is(39, "how many", x.tell(odd[i % 6]), i);
            due.is(39, "how many wait", x.count(10), i);
        }
        for (int v : odd) {
            due.is(39, "sixty wait", x.tell(v), FULL);
        }
        due.is(39, "sixty wait still", x.count(10), 60);
        due.refused(39, "a sixty-first", y -> {
            for (int i = 4; i < 60; i++) {
                y.tell(0);
            }
        }, y -> y.tell(5), FULL);
        x.check(1);
        due.is(39, "the first again", x.tell(5), 1);
    }

    /** A check in whose stead another one, with other numbers to tell, empties the row of those that wait. */
    private static void checks(String sentence, Edge.Story story, int n, int want) {
        due.leaves(40, sentence, story, x -> x.check(n), want, x -> x.check(n == 7 ? 8 : 7));
    }

    private static void checkRefusals() {
        for (int n : new int[] {0, 31, -1, LOW, HIGH}) {
            checks("check " + n, Edge::livedIn, n, BAD);
            checks("check " + n + " ahead of NO", x -> {
                Edge.fullRing(x);
                x.tell(1);
            }, n, BAD);
        }
        for (int n : new int[] {1, 2, 30}) {
            checks("no IMAGE", x -> {
                Edge.fullRing(x);
                x.tell(1);
            }, n, NO);
            checks("no IMAGE, no numbers", Edge::fullRing, n, NO);
        }
        checks("two told", Edge::livedIn, 2, 0);
        checks("one too few", Edge::livedIn, 3, 5);
        checks("two too many", Edge::livedIn, 1, 3);
        for (int n : new int[] {0, 31, 1, 30, LOW}) {
            BenchSeats x = new BenchSeats();
            for (int i = 0; i < 60; i++) {
                x.tell(i);
            }
            x.check(n);
            due.is(40, "none wait, whatever is answered", x.count(10), 0);
        }
    }

    private static void checkBounds() {
        int[] rows = told(31);
        for (int n : new int[] {1, 2, 29, 30}) {
            BenchSeats x = kept();
            tellAll(x, rows, 2 * n);
            due.is(40, "all of " + n, x.check(n), 0);
            due.is(40, "none wait then", x.count(10), 0);
            due.is(40, "none at all", x.check(n), 1);
            tellAll(x, rows, 2 * n - 1);
            due.is(40, "the last is missing", x.check(n), 2 * n);
            tellAll(x, rows, 1);
            due.is(40, "the second is missing", x.check(n), 2);
            for (int off : new int[] {0, 1, 2 * n - 2, 2 * n - 1}) {
                int[] others = rows.clone();
                others[off]++;
                tellAll(x, others, 2 * n);
                due.is(40, "the first that is not", x.check(n), 1 + off);
            }
        }
        for (int n : new int[] {1, 2, 29}) {
            BenchSeats x = kept();
            tellAll(x, rows, 2 * n + 1);
            due.is(40, "one too many", x.check(n), 2 * n + 1);
            tellAll(x, rows, 60);
            due.is(40, "all sixty", x.check(n), 2 * n + 1);
        }
        BenchSeats x = kept();
        int[] twice = rows.clone();
        twice[1]++;
        twice[0]++;
        tellAll(x, twice, 4);
        due.is(40, "the first of two that are not", x.check(2), 1);
        int[] turned = {rows[1], rows[0]};
        tellAll(x, turned, 2);
        due.is(40, "the set first, TILL behind it", x.check(1), rows[0] == rows[1] ? 0 : 1);
        x.back();
        due.is(40, "THE IMAGE itself stays", x.count(4), 0);
    }

    private static void checkAtTheLastMinute() {
        for (int minute : new int[] {9968, 9969, 9970, 9998, 9999}) {
            BenchSeats x = new BenchSeats();
            Edge.waitUntil(x, minute);
            busy(x);
            x.keep();
            int left = Math.min(30, 9999 - minute);
            int[] rows = new int[60];
            for (int i = 0; i < left; i++) {
                rows[2 * i] = x.behind(i + 1, 0);
                rows[2 * i + 1] = x.behind(i + 1, 1);
            }
            tellAll(x, rows, 2 * left);
            due.is(40, "fewer, from " + minute + " on", x.check(30), 0);
            if (left < 30) {
                tellAll(x, rows, 2 * left + 1);
                due.is(40, "one too many, from " + minute + " on", x.check(30), 2 * left + 1);
            }
            due.is(40, "none told, from " + minute + " on", x.check(1), left == 0 ? 0 : 1);
        }
    }

    /** How many minutes are left is told by the minute of the image, whatever the minute is now. */
    private static void checkByTheMinuteOfTheImage() {
        int[] rows = told(30);
        BenchSeats x = kept();
        Edge.waitUntil(x, 9999);
        tellAll(x, rows, 60);
        due.is(40, "an IMAGE of the first MINUTE, now it is the last", x.check(30), 0);
        tellAll(x, rows, 58);
        due.is(40, "all thirty are due", x.check(30), 59);
        x = new BenchSeats();
        Edge.waitUntil(x, 9990);
        x.keep();
        Edge.waitUntil(x, 9999);
        // Nobody is there: no place is ever taken, nothing is ever paid.
        tellAll(x, new int[60], 18);
        due.is(40, "an IMAGE of nine MINUTES ahead of the last", x.check(30), 0);
        tellAll(x, new int[60], 17);
        due.is(40, "the ninth is due", x.check(30), 18);
    }

    /** More texts than sitters, all of them kept. */
    private static void allTextsAreKept() {
        String[] keys = {"fare", "fee", "fine"};
        BenchSeats x = new BenchSeats();
        for (int t = 0; t < 14; t++) {
            Due.text(x, keys[t % 3] + " " + t + "+1");
        }
        x.keep();
        for (int round = 0; round < 2; round++) {
            due.is(42, "no SITTERS", x.back(), 0);
            due.is(42, "fourteen TEXTS", x.count(9), 14);
            for (int t = 0; t < 14; t++) {
                due.is(42, "KEY of " + t, x.textTold(t, 0), t % 3);
                due.is(42, "NUMBERS and NAMES of " + t, x.textTold(t, 1), 2);
            }
            due.is(42, "fee of the last of its KEY", x.fee(), 14);
            x.sitter(SITTER);
            due.is(42, "fine of the last of its KEY", x.fine(0), 12);
            due.is(42, "fare of the last of its KEY", x.sits(0, 0), 13);
        }
    }

    /** What will be, and the minutes told, go by the last of many texts, though there is but one sitter. */
    private static void lastTextCounts() {
        BenchSeats x = new BenchSeats();
        x.sitter(SITTER);
        x.rule(2, 100);
        x.rule(3, 0);
        for (int t = 0; t < 13; t++) {
            Due.text(x, "fee 1");
        }
        x.keep();
        Due.text(x, "fare 30");
        due.is(19, "the fourteenth TEXT", x.behind(1, 1), 30);
        x.tell(x.behind(1, 0));
        x.tell(1);
        due.is(40, "THE IMAGE has no TEXT of fare", x.check(1), 0);
        x.back();
        Due.text(x, "fare 20");
        due.is(19, "another fourteenth TEXT", x.behind(1, 1), 20);
        x.keep();
        x.tell(x.behind(1, 0));
        x.tell(20);
        due.is(40, "THE IMAGE has it now", x.check(1), 0);
        due.is(42, "back", x.back(), 1);
        due.is(42, "the TEXT that was kept", x.sits(0, 0), 20);
    }

    private static void keep() {
        BenchSeats x = new BenchSeats();
        due.is(41, "no SITTERS", x.keep(), 0);
        due.is(41, "there is an IMAGE", x.back(), 0);
        Edge.fillUp(x);
        due.is(41, "twelve", x.keep(), 12);
        due.is(41, "back to them", x.back(), 12);
        due.asks(41, "kept again as it is: how many", BenchSeats::back, BenchSeats::keep, 6);
        due.leaves(41, "nothing else changes", y -> {
            Edge.livedIn(y);
            y.check(1);
            y.keep();
        }, BenchSeats::keep, 7, y -> { });
        x = new BenchSeats();
        x.keep();
        x.sitter(SITTER);
        x.keep();
        x.sitter(SITTER);
        due.is(41, "the one that was kept last", x.back(), 1);
    }

    private static void back() {
        due.leaves(42, "no IMAGE", x -> {
            Edge.fullRing(x);
            x.tell(3);
            Due.feed(x, "fee 1");
            Edge.row(x, 0, 0, 4, 5);
            x.lay(2, 3, 9);
        }, BenchSeats::back, NO, x -> { });
        due.leaves(42, "again and again", x -> {
            Edge.livedIn(x);
            x.back();
        }, BenchSeats::back, 6, x -> { });
        due.leaves(42, "right behind keep", x -> {
            Edge.livedIn(x);
            x.check(1);
            x.keep();
        }, BenchSeats::back, 7, x -> { });
        BenchSeats x = new BenchSeats();
        x.keep();
        Edge.livedIn(x);
        due.is(42, "to what was kept last: six", x.back(), 6);
        x = new BenchSeats();
        x.keep();
        fillAll(x);
        due.is(42, "back to the first", x.back(), 0);
        due.is(42, "the same as one that is new", x.fee(), 0);
        int[] counts = {0, 9, 0, 0, 0, 1, 0, 50, 10, 0, 60, 96, 1};
        for (int i = 0; i < counts.length; i++) {
            due.is(42, "count " + i, x.count(i), counts[i]);
        }
        for (int key = 0; key < 3; key++) {
            due.is(42, "no TEXT of KEY " + key, x.why(key), NONE);
        }
        for (int p = 0; p < 9; p++) {
            due.is(42, "nobody AT " + p, x.who(p), NONE);
            due.is(42, "CUSHION of " + p, x.cushion(p, 0), 0);
        }
        due.is(42, "numbers that wait stay", x.tell(0), FULL);
        due.is(42, "THE TAPE stays", x.feed(0, 0, 0), FULL);
        due.is(42, "SHEETS stay", x.reads(3), 0);
        due.is(42, "SLOTS stay", x.item(4, 23), 8);
        due.is(42, "the number in a SLOT stays", x.rest(0, 100), 77);
    }

    /** All that an image keeps, and all that it does not, at its fullest. */
    private static void fillAll(BenchSeats x) {
        Edge.fullRing(x);
        for (int what = 0; what < 4; what++) {
            x.rule(what, 2);
        }
        for (int p = 0; p < 12; p++) {
            x.cushion(p, 99);
        }
        String[] keys = {"fare", "fee", "fine"};
        for (int t = 0; t < 14; t++) {
            Due.text(x, keys[t % 3] + " 5");
        }
        x.minutes(9);
        x.sheet(3, 0, 24);
        x.mark(3, 23, 8);
        x.lay(4, 2, 3);
        x.lay(0, 3, 77);
        for (int i = 0; i < 60; i++) {
            x.tell(i);
        }
        for (int i = 0; i < 8; i++) {
            x.feed(0, 0, 0);
        }
    }

    /** What is done behind a back is not done to the image. */
    private static void imageIsItsOwn() {
        BenchSeats x = new BenchSeats();
        Edge.seat(x, WIDE, 0);
        Due.text(x, "fee 1");
        x.keep();
        for (int round = 0; round < 3; round++) {
            x.rises(0);
            x.turns(0, FRIEND);
            x.sits(0, 5);
            x.sitter(SITTER);
            x.cushion(8, 7);
            Due.text(x, "fee 2");
            due.is(42, "another TEXT", x.fee(), 2);
            due.is(42, "back", x.back(), 1);
            due.is(42, "its KIND", x.told(0, 0), WIDE);
            due.is(42, "AT", x.told(0, 1), 0);
            due.is(42, "SAT", x.told(0, 3), 1);
            due.is(42, "PENNIES", x.told(0, 2), -2);
            due.is(42, "CUSHION", x.cushion(8, 0), 0);
            due.is(42, "the TEXT that counts", x.fee(), 1);
            due.is(42, "TEXTS", x.count(9), 1);
        }
    }

    private static void count() {
        for (int what : new int[] {-1, 13, LOW, HIGH}) {
            due.refused(43, "count " + what, x -> x.count(what), BAD);
        }
        int[] lived = {7, 9, 1, 1, 3, 3, 2, 60, 20, 3, 4, 9};
        for (int what = 0; what < lived.length; what++) {
            int one = what;
            due.asks(43, "count " + what, x -> { }, x -> x.count(one), lived[what]);
        }
        due.asks(43, "z", x -> x.seed(LOW), x -> x.count(12), LOW);
        BenchSeats x = new BenchSeats();
        fillAll(x);
        int[] full = {12, 12, 1, 0, 9, 2, 2, 2, 2, 14, 60, 96};
        for (int what = 0; what < full.length; what++) {
            due.is(43, "at its fullest, " + what, x.count(what), full[what]);
        }
        x.bench(1, 0, 1);
        x.trim(0);
        x.check(1);
        Edge.waitUntil(x, 9999);
        int[] then = {12, 1, 0, 1, 9999, 2, 2, 2, 2, 14, 0, 0};
        for (int what = 0; what < then.length; what++) {
            due.is(43, "count then, " + what, x.count(what), then[what]);
        }
    }

    /** The last of 512 calls is answered as the first. */
    private static void allCalls() {
        BenchSeats x = new BenchSeats();
        x.deal(12);
        for (int i = 0; i < 508; i++) {
            x.minutes(i % 100 + 1);
        }
        due.is(43, "the 510th call", x.count(4), 9999);
        due.is(43, "the 511th call", x.count(0), 12);
        due.is(43, "the 512th call", x.count(1), 9);
        x = new BenchSeats();
        for (int i = 0; i < 511; i++) {
            x.text();
        }
        due.is(27, "the 512th call", x.text(), -100);
        x = new BenchSeats();
        for (int i = 0; i < 511; i++) {
            x.tell(i);
        }
        due.is(39, "the 512th call", x.tell(0), FULL);
        x = new BenchSeats();
        for (int i = 0; i < 511; i++) {
            x.sheet(i % 4, 1, 24);
        }
        due.is(30, "the 512th call", x.sheet(0, -1, 0), 0);
    }

    public static void main(String[] args) {
        tell();
        checkRefusals();
        checkBounds();
        checkAtTheLastMinute();
        checkByTheMinuteOfTheImage();
        allTextsAreKept();
        lastTextCounts();
        keep();
        back();
        imageIsItsOwn();
        count();
        allCalls();
        due.end("ImageEdgesTest", 39, 40, 41, 42, 43);
    }
}
