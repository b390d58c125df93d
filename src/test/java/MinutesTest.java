/** Promises 14, 15, 19 to 21: minutes, and what will be. */
public final class MinutesTest {
    private static final int BAD = BenchSeats.BAD, NONE = BenchSeats.NONE;
    private static final Due due = new Due();

    private static int draw(int z) {
        return z * 1103515245 + 12345;
    }

    /** z behind so many draws from 1. */
    private static int drawn(int many) {
        int z = 1;
        for (int i = 0; i < many; i++) {
            z = draw(z);
        }
        return z;
    }

    private static void bounds() {
        BenchSeats x = new BenchSeats();
        due.is("minutes 0", x.minutes(0), BAD);
        due.is("minutes 101", x.minutes(101), BAD);
        due.is("no time behind a refusal", x.count(4), 0);
        x.rule(2, 0);
        x.rule(3, 0);
        for (int i = 0; i < 99; i++) {
            x.minutes(100);
        }
        due.is("two draws a minute", x.count(12), drawn(2 * 9900));
        due.is("minutes", x.count(4), 9900);
        x.sitter(0);
        due.is("up to 9999", x.minutes(100), 0);
        due.is("the last", x.count(4), 9999);
        due.is("99 of them", x.count(12), drawn(2 * 9999));
        x.rule(2, 100);
        due.is("none more", x.minutes(1), 0);
        due.is("z stays", x.count(12), drawn(2 * 9999));
        due.is("but it will be", x.behind(1, 2), 1);
        due.is("and it will be full up", x.fullUp(), 1);
    }

    private static void draws() {
        BenchSeats x = new BenchSeats();
        x.rule(2, 100);
        x.rule(3, 100);
        x.minutes(1);
        due.is("nobody there: no draw for whom", x.count(12), drawn(2));
        x = new BenchSeats();
        x.rule(2, 100);
        x.rule(3, 0);
        x.sitter(0);
        due.is("one sits down by lot", x.minutes(1), 1);
        due.is("come, where, rise", x.count(12), drawn(3));
        due.is("where", x.told(0, 1), (drawn(2) >>> 8) % 9);
        due.is("nobody stands", x.minutes(1), 0);
        due.is("come, rise", x.count(12), drawn(5));
        x.rule(3, 100);
        x.sitter(0);
        x.turns(1, 3);
        x.bench(1, 0, 0);
        x.sits(0, 0);
        due.is("one that may sit nowhere", x.minutes(1), 0);
        due.is("come, rise, whom", x.count(12), drawn(8));
        due.is("whom", x.told(0, 1), (drawn(8) >>> 8) % 2 == 0 ? -1 : 0);
    }

    private static void lotAmongPlaces() {
        for (int seed = 0; seed < 40; seed++) {
            BenchSeats x = new BenchSeats();
            x.sitter(0);
            x.sitter(5);
            x.sits(0, 4);
            x.rule(2, 100);
            x.rule(3, 0);
            x.seed(seed);
            x.minutes(1);
            int[] places = {0, 1, 2, 6, 7, 8};
            due.is("lot among places", x.told(1, 1), places[(draw(draw(seed)) >>> 8) % 6]);
        }
    }

    private static void leastAndSoftest() {
        BenchSeats x = new BenchSeats();
        x.rule(2, 100);
        x.rule(3, 0);
        x.rule(1, 1);
        x.sitter(0);
        x.sitter(0);
        x.sitter(0);
        due.is("rule 1: three sit", x.minutes(3), 3);
        due.is("rule 1: 0, then 2, then 1 between them", x.inn(0), 0b111);
        due.is("no draw for the place", x.count(12), drawn(6));
        x.bench(9, 0, 0);
        x.cushion(6, 5);
        x.cushion(3, 5);
        x.rule(1, 2);
        due.is("rule 2", x.minutes(1), 1);
        due.is("rule 2: of several the least", x.told(0, 1), 3);
        due.is("rule 2 again", x.minutes(1), 1);
        due.is("rule 2: the other", x.told(1, 1), 6);
        due.is("how many sit", x.inn(2), 2);
        due.is("who stands", x.inn(3), 4);
        due.is("till", x.inn(1), 3 + 12);
        due.is("inn 4", x.inn(4), BAD);
        due.is("inn -1", x.inn(-1), BAD);
    }

    /** Only the least that stands comes, even if another one could sit. */
    private static void leastWhoStands() {
        BenchSeats x = new BenchSeats();
        x.bench(2, 0, 0);
        x.rule(2, 100);
        x.rule(3, 0);
        x.sitter(5);
        x.sitter(3);
        x.sitter(4);
        x.sits(0, 0);
        due.is("the FAT one stands in the way", x.minutes(9), 0);
        due.is("full up: the TWIN may", x.fullUp(), NONE);
        x.sits(2, 1);
        due.is("full up now", x.fullUp(), 0);
    }

    private static void behindMinutes() {
        BenchSeats x = new BenchSeats();
        x.deal(8);
        x.rule(3, 40);
        x.minutes(7);
        int[] now = {x.inn(0), x.inn(1), x.inn(2), x.inn(3), x.count(4), x.count(12)};
        for (int n = 0; n <= 100; n += 20) {
            int taken = x.behind(n, 0), till = x.behind(n, 1), sit = x.behind(n, 2), last = x.behind(n, 10);
            int[] then = {x.inn(0), x.inn(1), x.inn(2), x.inn(3), x.count(4), x.count(12)};
            for (int i = 0; i < now.length; i++) {
                due.is("behind changes nothing", then[i], now[i]);
            }
            BenchSeats y = new BenchSeats();
            y.deal(8);
            y.rule(3, 40);
            y.minutes(7);
            if (n > 0) {
                y.minutes(n);
            }
            due.is("behind: taken", taken, y.inn(0));
            due.is("behind: till", till, y.inn(1));
            due.is("behind: sit", sit, y.inn(2));
            due.is("behind: at", last, y.told(7, 1));
        }
        due.is("behind -1", x.behind(-1, 0), BAD);
        due.is("behind 101", x.behind(101, 0), BAD);
        due.is("behind what -1", x.behind(0, -1), BAD);
        due.is("behind of no sitter", x.behind(0, 11), BAD);
        due.is("behind far off", x.behind(0, Integer.MAX_VALUE), BAD);
    }

    private static void fullUp() {
        BenchSeats x = new BenchSeats();
        due.is("nobody stands", x.fullUp(), 0);
        x.rule(2, 0);
        x.rule(3, 0);
        x.sitter(0);
        due.is("never", x.fullUp(), NONE);
        x.rule(2, 100);
        x.sitter(0);
        x.sitter(0);
        due.is("one a minute", x.fullUp(), 3);
        due.is("nothing changes", x.inn(3), 7);
        due.is("z stays", x.count(12), 1);
        // With COME 1 it comes when the draws say so: the first n behind which it sits.
        x = new BenchSeats();
        x.sitter(0);
        x.rule(2, 1);
        x.rule(3, 0);
        for (int seed = 0; seed < 60; seed++) {
            x.seed(seed);
            int z = seed;
            int first = NONE;
            for (int n = 1; n <= 200 && first == NONE; n++) {
                z = draw(z);
                if ((z >>> 8) % 100 < 1) {
                    first = n;
                }
                z = draw(z);
            }
            due.is("full up by draws", x.fullUp(), first);
        }
    }

    private static void rose() {
        BenchSeats x = new BenchSeats();
        due.is("rose 0", x.rose(0, 0), BAD);
        due.is("rose 61", x.rose(61, 0), BAD);
        due.is("rose what 2", x.rose(1, 2), BAD);
        due.is("rose what -1", x.rose(1, -1), BAD);
        due.is("nobody sits", x.rose(1, 0), NONE);
        due.is("nobody sits, till", x.rose(60, 1), NONE);
        x.sitter(0);
        due.is("one stands", x.rose(1, 0), NONE);
        x.sitter(1);
        x.sitter(1);
        x.bench(9, 0, 0);
        x.sits(0, 0);
        x.sits(1, 2);
        x.sits(2, 5);
        x.rule(2, 100);
        x.rule(3, 0);
        due.is("a WIDE pays twice, the least of two", x.rose(1, 0), 1);
        due.is("till then", x.rose(1, 1), 1 + 2 + 2 + 2);
        due.is("nothing changes", x.inn(3), 0);
        x.rule(2, 0);
        due.is("none comes: the least", x.rose(60, 0), 0);
        due.is("till stays", x.rose(60, 1), 5);
        due.is("fare below 0", Due.text(x, "fare 0-5"), 0);
        x.rule(2, 100);
        due.is("the one that costs least", x.rose(1, 0), 0);
        due.is("till less", x.rose(1, 1), 0);
    }

    public static void main(String[] args) {
        bounds();
        draws();
        lotAmongPlaces();
        leastAndSoftest();
        leastWhoStands();
        behindMinutes();
        fullUp();
        rose();
        due.end("MinutesTest");
    }
}
