/** Promises 16 to 18 and 22 to 24: how ordinary ones can go on, fees and fines. */
public final class OutlookTest {
    private static final int BAD = BenchSeats.BAD, NONE = BenchSeats.NONE, NOTHING = BenchSeats.NOTHING;
    private static final Due due = new Due();

    private static boolean some(int n, int ring, int wall, int set, int p) {
        if (ring == 1) {
            return (set >> (p + n) % n & 1) == 1;
        }
        return p < 0 || p >= n ? wall == 1 : (set >> p & 1) == 1;
    }

    private static boolean may(int n, int ring, int wall, int set, int p) {
        return (set >> p & 1) == 0 && some(n, ring, wall, set, p - 1) == some(n, ring, wall, set, p + 1);
    }

    /** Walks all orders one by one: most, fewest, how many, whether the one whose turn it is wins. */
    private static int[] walk(int n, int ring, int wall, int set) {
        int[] all = {0, 99, 0, 0};
        for (int p = 0; p < n; p++) {
            if (may(n, ring, wall, set, p)) {
                int[] next = walk(n, ring, wall, set | 1 << p);
                all[0] = Math.max(all[0], next[0] + 1);
                all[1] = Math.min(all[1], next[1] + 1);
                all[2] += next[2];
                all[3] |= 1 - next[3];
            }
        }
        return all[1] == 99 ? new int[] {0, 0, 1, 0} : all;
    }

    private static void emptyBenches() {
        BenchSeats x = new BenchSeats();
        for (int n = 1; n <= 8; n++) {
            for (int way = 0; way < 4; way++) {
                x.bench(n, way & 1, way >> 1);
                int[] want = walk(n, way & 1, way >> 1, 0);
                String which = "n " + n + " way " + way;
                due.is(which + " most", x.goes(0), want[0]);
                due.is(which + " fewest", x.goes(1), want[1]);
                due.is(which + " ways", x.goes(2), want[2]);
                due.is(which + " game", x.game(0), want[3]);
                int winning = 0;
                for (int p = 0; p < n; p++) {
                    boolean wins = may(n, way & 1, way >> 1, 0, p) && walk(n, way & 1, way >> 1, 1 << p)[3] == 0;
                    winning |= wins ? 1 << p : 0;
                }
                due.is(which + " winning", x.game(1), winning);
            }
        }
    }

    private static void smallAndLarge() {
        BenchSeats x = new BenchSeats();
        x.bench(1, 1, 0);
        due.is("ring of 1: most", x.goes(0), 1);
        due.is("ring of 1: winning", x.game(1), 1);
        x.bench(2, 1, 0);
        due.is("ring of 2: most", x.goes(0), 2);
        due.is("ring of 2: ways", x.goes(2), 2);
        due.is("ring of 2: game", x.game(0), 0);
        due.is("ring of 2: winning", x.game(1), 0);
        x.bench(2, 0, 1);
        due.is("shut at once: most", x.goes(0), 0);
        due.is("shut at once: fewest", x.goes(1), 0);
        due.is("shut at once: ways", x.goes(2), 1);
        due.is("shut at once: game", x.game(0), 0);
        due.is("shut at once: the least free place", x.worthy(0), 0);
        due.is("shut at once: nothing is got", x.worthy(1), 0);
        x.bench(12, 0, 0);
        // With an even number of places in a ROW one beside a free wall stays empty.
        due.is("12: most", x.goes(0), 11);
        x.bench(12, 1, 0);
        due.is("ring of 12: most", x.goes(0), 12);
        due.is("goes 3", x.goes(3), BAD);
        due.is("goes -1", x.goes(-1), BAD);
        due.is("game 2", x.game(2), BAD);
        due.is("game -1", x.game(-1), BAD);
        due.is("worthy 2", x.worthy(2), BAD);
        due.is("worthy -1", x.worthy(-1), BAD);
    }

    private static void besideThoseWhoSit() {
        BenchSeats x = new BenchSeats();
        x.sitter(1);
        x.sits(0, 3);
        int[] want = walk(9, 0, 0, 0b11000);
        due.is("beside a WIDE: most", x.goes(0), want[0]);
        due.is("beside a WIDE: fewest", x.goes(1), want[1]);
        due.is("beside a WIDE: ways", x.goes(2), want[2]);
        due.is("beside a WIDE: game", x.game(0), want[3]);
        due.is("nothing changes", x.inn(0), 0b11000);
    }

    private static void worthy() {
        BenchSeats x = new BenchSeats();
        x.bench(3, 0, 0);
        x.sitter(0);
        x.sits(0, 1);
        // Nobody may sit beside the middle one: 0 and 2 each lie between somebody and the wall.
        due.is("nothing to get", x.worthy(1), 0);
        due.is("the least free", x.worthy(0), 0);
        x.rises(0);
        x.cushion(1, 40);
        // 0 and 2 first, then 1 between them: all three are taken, 3 pennies and 40 and 50.
        due.is("all are got", x.worthy(1), 93);
        due.is("the least", x.worthy(0), 0);
        x.bench(2, 0, 0);
        x.rule(0, 10);
        x.cushion(0, 5);
        x.cushion(1, 20);
        // Only one of the two can be taken: 10 and 20 and 50 at place 1.
        due.is("the better one", x.worthy(0), 1);
        due.is("what it gives", x.worthy(1), 80);
        x.cushion(0, 99);
        x.cushion(1, 98);
        due.is("a cushion above 99", x.worthy(1), 159);
        due.is("at the softer one", x.worthy(0), 0);
        due.is("a fare does not matter", Due.text(x, "fare 7"), 0);
        due.is("what it gives still", x.worthy(1), 159);
        due.is("cushions stay", x.cushion(0, 99), 99);
        x.turns(0, 1);
        x.sits(0, 0);
        due.is("no place is free", x.worthy(0), NONE);
        due.is("no place is free, gain", x.worthy(1), NONE);
        due.is("BAD ahead of NONE", x.worthy(2), BAD);
    }

    private static void book() {
        BenchSeats x = new BenchSeats();
        due.is("book 4", x.book(4), BAD);
        due.is("book -1", x.book(-1), BAD);
        due.is("book MISSING", x.book(0), NOTHING);
        x.sheet(0, 1, 6);
        int[] places = {NONE, 0, 2, NONE, 1, 1};
        for (int i = 0; i < places.length; i++) {
            x.mark(0, i, places[i]);
        }
        due.is("three, then one where one sits", x.book(0), 3);
        x.mark(0, 5, 9);
        due.is("three, then one beyond", x.book(0), 3);
        x.mark(0, 5, 4);
        due.is("all four", x.book(0), 4);
        x.mark(0, 1, -1);
        due.is("none", x.book(0), 0);
        x.sheet(0, 0, 0);
        due.is("of an empty one", x.book(0), 0);
        x.sheet(0, 0, 1);
        x.sitter(0);
        x.sits(0, 1);
        due.is("beside one who sits", x.book(0), 0);
        due.is("nothing changes", x.inn(0), 2);
    }

    private static void feeAndFine() {
        BenchSeats x = new BenchSeats();
        due.is("fine of nobody", x.fine(0), BAD);
        x.sitter(1);
        due.is("fine -1", x.fine(-1), BAD);
        x.sits(0, 0);
        due.is("fee without a TEXT", x.fee(), 2);
        due.is("fine without a TEXT", x.fine(0), 1);
        x.minutes(3);
        Due.text(x, "fee t*1000+m");
        due.is("fee", x.fee(), x.inn(1) * 1000 + 3);
        Due.text(x, "fine p*100-s");
        due.is("fine", x.fine(0), x.told(0, 2) * 100 - x.told(0, 3));
        Due.text(x, "fee 9999*9999*9999");
        due.is("fee wraps and is not held", x.fee(), 9999 * 9999 * 9999);
        Due.text(x, "fine 9999*9999");
        due.is("fine is not held", x.fine(0), 99980001);
    }

    public static void main(String[] args) {
        emptyBenches();
        smallAndLarge();
        besideThoseWhoSit();
        worthy();
        book();
        feeAndFine();
        due.end("OutlookTest");
    }
}
