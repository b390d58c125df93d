/** Promises 39 to 43: rows, images, counts. */
public final class ImagesTest {
    private static final int BAD = BenchSeats.BAD, NO = BenchSeats.NO, FULL = BenchSeats.FULL, NONE = BenchSeats.NONE;
    private static final Due due = new Due();

    private static void tell() {
        BenchSeats x = new BenchSeats();
        for (int i = 1; i <= 60; i++) {
            due.is("tell " + i, x.tell(-i), i);
        }
        due.is("sixty-first", x.tell(0), FULL);
        due.is("sixty wait", x.count(10), 60);
        due.is("no IMAGE", x.check(1), NO);
        due.is("none wait, whatever is answered", x.count(10), 0);
        x.tell(1);
        due.is("BAD ahead of NO", x.check(0), BAD);
        due.is("none wait behind BAD", x.count(10), 0);
        x.keep();
        x.tell(1);
        due.is("check 31", x.check(31), BAD);
        due.is("none wait behind BAD, too", x.count(10), 0);
    }

    /** What 30 minutes will tell, by behind; the image is of the same moment. */
    private static int[] rows(BenchSeats x) {
        int[] rows = new int[60];
        for (int i = 0; i < 30; i++) {
            rows[2 * i] = x.behind(i + 1, 0);
            rows[2 * i + 1] = x.behind(i + 1, 1);
        }
        return rows;
    }

    private static void tellAll(BenchSeats x, int[] rows, int many, int off) {
        for (int i = 0; i < many; i++) {
            x.tell(rows[i] + (i == off ? 1 : 0));
        }
    }

    private static void check() {
        BenchSeats x = new BenchSeats();
        x.deal(9);
        x.rule(3, 30);
        Due.text(x, "fare p+s*2");
        x.minutes(2);
        int[] rows = rows(x);
        x.keep();
        x.minutes(50);
        x.bench(3, 1, 1);
        Due.text(x, "fare 0");
        for (int n : new int[] {1, 2, 5, 30}) {
            tellAll(x, rows, 2 * n, -1);
            due.is("told right, " + n, x.check(n), 0);
            due.is("none wait", x.count(10), 0);
        }
        for (int off = 0; off < 8; off++) {
            tellAll(x, rows, 8, off);
            due.is("off at " + off, x.check(4), 1 + off);
        }
        tellAll(x, rows, 7, -1);
        due.is("one is missing", x.check(4), 8);
        tellAll(x, rows, 6, -1);
        due.is("two are missing", x.check(4), 7);
        due.is("all are missing", x.check(4), 1);
        tellAll(x, rows, 9, -1);
        due.is("one too many", x.check(4), 9);
        tellAll(x, rows, 60, -1);
        due.is("many too many", x.check(1), 3);
        due.is("nothing changes", x.count(1), 3);
        due.is("THE MINUTE stays", x.count(4), 52);
    }

    private static void checkAtTheEnd() {
        BenchSeats x = new BenchSeats();
        x.deal(3);
        for (int i = 0; i < 99; i++) {
            x.minutes(100);
        }
        x.minutes(98);
        due.is("9998", x.count(4), 9998);
        int[] rows = rows(x);
        x.keep();
        tellAll(x, rows, 2, -1);
        due.is("only one minute is left", x.check(30), 0);
        tellAll(x, rows, 4, -1);
        due.is("two told", x.check(30), 3);
        x.minutes(1);
        x.keep();
        due.is("none left, none told", x.check(5), 0);
        x.tell(0);
        due.is("none left, one told", x.check(5), 1);
    }

    private static int[] state(BenchSeats x) {
        int[] state = new int[110];
        int at = 0;
        for (int i = 0; i <= 12; i++) {
            state[at++] = i == 10 || i == 11 ? 0 : x.count(i);
        }
        for (int i = 0; i < 4; i++) {
            state[at++] = x.inn(i);
        }
        for (int k = 0; k < 12; k++) {
            for (int what = 0; what < 4; what++) {
                state[at++] = x.told(k, what);
            }
        }
        for (int key = 0; key < 3; key++) {
            state[at++] = x.why(key);
        }
        for (int p = 0; p < x.count(1); p++) {
            int was = x.cushion(p, 0);
            x.cushion(p, was);
            state[at++] = was;
        }
        state[at++] = x.fee();
        state[at++] = x.fine(0);
        state[at++] = x.textTold(2, 0);
        return state;
    }

    private static void same(String which, int[] got, int[] want) {
        for (int i = 0; i < want.length; i++) {
            due.is(which + ", " + i, got[i], want[i]);
        }
    }

    private static void keepAndBack() {
        BenchSeats x = new BenchSeats();
        due.is("no IMAGE", x.back(), NO);
        x.bench(12, 1, 1);
        x.deal(7);
        x.cushion(11, 9);
        x.rule(0, 5);
        x.rule(1, 2);
        x.rule(2, 70);
        x.rule(3, 20);
        Due.text(x, "fare 7+s");
        Due.text(x, "fee t*m");
        x.minutes(9);
        due.is("keep", x.keep(), 7);
        int[] kept = state(x);
        for (int round = 0; round < 2; round++) {
            x.minutes(20);
            x.deal(5);
            x.bench(4, 0, 0);
            x.cushion(0, 44);
            x.rule(0, 50);
            x.rule(1, 0);
            x.rule(2, 1);
            x.rule(3, 99);
            x.seed(77);
            Due.text(x, "fee 1");
            Due.text(x, "fine 2");
            x.sheet(0, 0, 2);
            x.mark(0, 1, 6 + round);
            x.lay(0, 3, 55);
            x.tell(1);
            Due.feed(x, "abc");
            due.is("back", x.back(), 7);
            same("as the IMAGE", state(x), kept);
            due.is("SHEETS stay", x.lay(1, 2, 0), round == 0 ? 0 : 2);
            due.is("as marked", x.item(1, 1), 6 + round);
            due.is("SLOTS stay", x.rest(0, 100), 55);
            due.is("numbers that wait stay", x.count(10), round + 1);
            due.is("THE TAPE stays", x.count(11), 3);
            x.trim(0);
            due.is("no third TEXT", x.textTold(2, 0), BAD);
            due.is("none of fine", x.why(2), NONE);
        }
        x.sits(0, 0);
        x.sitter(0);
        due.is("kept anew", x.keep(), 8);
        x.sitter(0);
        due.is("back anew", x.back(), 8);
        due.is("told anew", x.count(0), 8);
    }

    private static void count() {
        BenchSeats x = new BenchSeats();
        x.bench(7, 1, 1);
        x.deal(3);
        x.rule(0, 2);
        x.rule(1, 1);
        x.rule(2, 3);
        x.rule(3, 4);
        x.minutes(6);
        Due.text(x, "fee t");
        x.tell(0);
        x.tell(0);
        Due.feed(x, "fee");
        x.seed(-5);
        int[] want = {3, 7, 1, 1, 6, 2, 1, 3, 4, 1, 2, 3, -5};
        for (int i = 0; i < want.length; i++) {
            due.is("count " + i, x.count(i), want[i]);
        }
        due.is("count 13", x.count(13), BAD);
        due.is("count -1", x.count(-1), BAD);
    }

    public static void main(String[] args) {
        tell();
        check();
        checkAtTheEnd();
        keepAndBack();
        count();
        due.end("ImagesTest");
    }
}
