/** Promises 1 to 13: the bench, sitters. */
public final class SittersTest {
    private static final int BAD = BenchSeats.BAD, NO = BenchSeats.NO, FULL = BenchSeats.FULL, NONE = BenchSeats.NONE,
        KIND = BenchSeats.KIND;
    private static final Due due = new Due();

    private static void newObject() {
        BenchSeats x = new BenchSeats();
        int[] counts = {0, 9, 0, 0, 0, 1, 0, 50, 10, 0, 0, 0, 1};
        for (int i = 0; i < counts.length; i++) {
            due.is("new count " + i, x.count(i), counts[i]);
        }
        for (int i = 0; i < 4; i++) {
            due.is("new inn " + i, x.inn(i), 0);
        }
        for (int p = 0; p < 9; p++) {
            due.is("new who " + p, x.who(p), NONE);
            due.is("new cushion " + p, x.cushion(p, 0), 0);
        }
        due.is("new fee", x.fee(), 0);
        due.is("new back", x.back(), NO);
    }

    private static void bench() {
        BenchSeats x = new BenchSeats();
        int[][] wrong = {{0, 0, 0}, {13, 0, 0}, {5, -1, 0}, {5, 2, 0}, {5, 0, -1}, {5, 0, 2}, {-1, 0, 0}};
        x.sitter(0);
        x.sitter(0);
        x.sits(0, 4);
        x.cushion(8, 7);
        for (int[] w : wrong) {
            due.is("bench wrong", x.bench(w[0], w[1], w[2]), BAD);
        }
        due.is("a refused bench keeps all", x.told(0, 1), 4);
        due.is("a refused bench keeps cushions", x.cushion(8, 7), 7);
        due.is("bench: one sat", x.bench(12, 1, 1), 1);
        due.is("all stand", x.inn(3), 3);
        due.is("SAT stays", x.told(0, 3), 1);
        due.is("PENNIES stay", x.told(0, 2), -1);
        due.is("TILL stays", x.inn(1), 1);
        due.is("cushions are 0", x.cushion(8, 0), 0);
        due.is("N", x.count(1), 12);
        due.is("RING", x.count(2), 1);
        due.is("WALL", x.count(3), 1);
        due.is("a last place", x.cushion(11, 5), 0);
        x.bench(1, 0, 0);
        x.bench(12, 0, 0);
        due.is("a cushion that was out of a small bench is 0 too", x.cushion(11, 0), 0);
    }

    private static void sitterAndTold() {
        BenchSeats x = new BenchSeats();
        due.is("kind -1", x.sitter(-1), BAD);
        due.is("kind 6", x.sitter(6), BAD);
        due.is("told without", x.told(0, 0), BAD);
        for (int i = 0; i < 12; i++) {
            due.is("sitter " + i, x.sitter(i % 6), i);
        }
        due.is("BAD ahead of FULL", x.sitter(6), BAD);
        due.is("thirteenth", x.sitter(0), FULL);
        int[] worths = {0, 6, 99, 12, 95, 3};
        for (int k = 0; k < 6; k++) {
            due.is("kind told", x.told(k, 0), k);
            due.is("at told", x.told(k, 1), -1);
            due.is("pennies told", x.told(k, 2), 0);
            due.is("sat told", x.told(k, 3), 0);
            due.is("takes told", x.told(k, 4), 0);
            due.is("worth told", x.told(k, 6), worths[k]);
        }
        due.is("what 7", x.told(0, 7), BAD);
        due.is("what -1", x.told(0, -1), BAD);
        due.is("sitter -1", x.told(-1, 0), BAD);
        due.is("sitter 12", x.told(12, 0), BAD);
    }

    private static void worthOfThoseWhoSat() {
        BenchSeats x = new BenchSeats();
        int[] worths = {2, 8, 97, 16, 93, 3};
        for (int k = 0; k < 6; k++) {
            x.sitter(k);
            for (int i = 0; i < 2; i++) {
                x.sits(k, 3);
                x.rises(k);
            }
            due.is("worth of kind " + k, x.told(k, 6), worths[k]);
            due.is("as SITTER", x.as(k, 0), 2);
        }
    }

    /** All six kinds beside the same neighbours, places told as sets. */
    private static void maySit(int n, int ring, int wall, int[][] seated, int[] want) {
        BenchSeats x = new BenchSeats();
        x.bench(n, ring, wall);
        for (int k = 0; k < 6; k++) {
            x.sitter(k);
        }
        for (int[] s : seated) {
            int one = x.sitter(s[0]);
            x.sits(one, s[1]);
            due.is("seated at " + s[1], x.told(one, 1), s[1]);
        }
        for (int k = 0; k < 6; k++) {
            due.is("n " + n + " ring " + ring + " wall " + wall + " kind " + k, x.told(k, 5), want[k]);
        }
    }

    private static void allMaySit() {
        int[][] none = {};
        maySit(1, 0, 0, none, new int[] {1, 0, 1, 0, 1, 1});
        maySit(1, 0, 1, none, new int[] {1, 0, 1, 0, 1, 0});
        maySit(1, 1, 0, none, new int[] {1, 0, 1, 0, 1, 1});
        maySit(1, 1, 1, none, new int[] {1, 0, 1, 0, 1, 1});
        maySit(2, 0, 0, none, new int[] {3, 1, 3, 1, 3, 3});
        maySit(2, 0, 1, none, new int[] {0, 1, 0, 0, 3, 0});
        maySit(2, 1, 0, none, new int[] {3, 3, 3, 3, 3, 3});
        maySit(2, 1, 0, new int[][] {{0, 1}}, new int[] {1, 0, 1, 0, 1, 0});
        maySit(3, 1, 1, new int[][] {{0, 1}}, new int[] {0, 4, 0, 0, 5, 0});
        maySit(3, 1, 0, new int[][] {{2, 1}}, new int[] {0, 4, 5, 0, 5, 0});
        maySit(3, 0, 0, none, new int[] {7, 3, 7, 3, 7, 7});
        maySit(3, 0, 1, none, new int[] {2, 0, 2, 0, 7, 2});
        // A wall that is somebody is no friend: between it and nobody a FRIEND may not sit.
        maySit(4, 0, 1, none, new int[] {6, 2, 6, 2, 15, 6});
        maySit(5, 0, 0, new int[][] {{4, 2}}, new int[] {17, 0, 27, 0, 27, 17});
        maySit(5, 0, 1, new int[][] {{0, 2}}, new int[] {0, 9, 0, 0, 27, 0});
        maySit(6, 1, 0, new int[][] {{1, 5}}, new int[] {12, 4, 12, 4, 30, 12});
        maySit(12, 1, 0, none, new int[] {4095, 4095, 4095, 4095, 4095, 4095});
        maySit(12, 0, 0, none, new int[] {4095, 2047, 4095, 2047, 4095, 4095});
    }

    private static void asAndTurns() {
        BenchSeats x = new BenchSeats();
        int[][] above = {{0}, {0, 1}, {0, 2}, {0, 1, 3}, {0, 2, 4}, {0, 5}};
        for (int k = 0; k < 6; k++) {
            x.sitter(k);
            for (int wanted = 0; wanted < 6; wanted++) {
                boolean isOne = false;
                for (int a : above[k]) {
                    isOne |= a == wanted;
                }
                due.is("kind " + k + " as " + wanted, x.as(k, wanted), isOne ? 0 : KIND);
            }
        }
        due.is("as of nobody", x.as(6, 0), BAD);
        due.is("as -1", x.as(-1, 0), BAD);
        due.is("as kind 6", x.as(0, 6), BAD);
        due.is("as kind -1", x.as(0, -1), BAD);
        due.is("turns nobody", x.turns(6, 0), BAD);
        due.is("turns kind 6", x.turns(0, 6), BAD);
        due.is("turns kind -1", x.turns(0, -1), BAD);
        x.sits(0, 0);
        due.is("BAD ahead of NO", x.turns(0, 6), BAD);
        due.is("turns one that sits", x.turns(0, 1), NO);
        due.is("it is what it was", x.told(0, 0), 0);
        x.rises(0);
        due.is("turns to FAT", x.turns(0, 3), 0);
        due.is("turns to FAT again", x.turns(0, 3), 3);
        due.is("SAT stays with it", x.as(0, 1), 1);
        due.is("it is no FRIEND", x.as(0, 2), KIND);
    }

    private static void sitsAndRises() {
        BenchSeats x = new BenchSeats();
        for (int k = 0; k < 6; k++) {
            x.sitter(k);
        }
        x.cushion(4, 10);
        int[] pays = {11, 22, 9, 23, 4, 11};
        int till = 0;
        for (int k = 0; k < 6; k++) {
            due.is("pays kind " + k, x.sits(k, 4), pays[k]);
            till += pays[k];
            due.is("till", x.inn(1), till);
            due.is("pennies", x.told(k, 2), -pays[k]);
            due.is("sat", x.told(k, 3), 1);
            due.is("at", x.told(k, 1), 4);
            due.is("who", x.who(4), k);
            due.is("who behind", x.who(5), k == 1 || k == 3 ? k : NONE);
            due.is("takes", x.told(k, 4), k == 1 || k == 3 ? 48 : 16);
            due.is("sits already", x.sits(k, 0), NO);
            due.is("may sit nowhere", x.told(k, 5), 0);
            due.is("rises", x.rises(k), 4);
            due.is("rises again", x.rises(k), NO);
        }
        due.is("sits: nobody", x.sits(6, 0), BAD);
        due.is("sits: sitter -1", x.sits(-1, 0), BAD);
        due.is("sits: place 9", x.sits(0, 9), BAD);
        due.is("sits: place -1", x.sits(0, -1), BAD);
        due.is("a WIDE at the last place of a ROW", x.sits(1, 8), NO);
        due.is("rises: nobody", x.rises(6), BAD);
        due.is("rises: -1", x.rises(-1), BAD);
        x.rule(0, 0);
        x.cushion(4, 0);
        due.is("FRIEND pays -2", x.sits(2, 4), -2);
        x.rises(2);
        due.is("TWIN pays half of it", x.sits(4, 4), -1);
        due.is("PENNIES grow", x.told(4, 2), -3);
    }

    private static void ringOfFive() {
        BenchSeats x = new BenchSeats();
        x.bench(5, 1, 0);
        x.sitter(1);
        due.is("a WIDE over the seam", x.sits(0, 4), 2);
        due.is("takes the last and the first", x.told(0, 4), 17);
        due.is("who at 0", x.who(0), 0);
        due.is("who at 4", x.who(4), 0);
        due.is("who at 5", x.who(5), BAD);
        due.is("who at -1", x.who(-1), BAD);
    }

    private static void penniesAreHeld() {
        BenchSeats x = new BenchSeats();
        x.sitter(3);
        due.is("fare", Due.text(x, "fare 9999"), 0);
        for (int i = 0; i < 7; i++) {
            due.is("FAT pays", x.sits(0, 0), 1999);
            x.rises(0);
        }
        due.is("PENNIES are held", x.told(0, 2), -9999);
        due.is("TILL is not", x.inn(1), 7 * 1999);
        due.is("fare below", Due.text(x, "fare 0-9999"), 1);
        for (int i = 0; i < 12; i++) {
            due.is("FAT gets", x.sits(0, 0), -1997);
            x.rises(0);
        }
        due.is("PENNIES are held above", x.told(0, 2), 9999);
        due.is("TILL below 0", x.inn(1), 7 * 1999 - 12 * 1997);
    }

    private static void cushionAndRule() {
        BenchSeats x = new BenchSeats();
        due.is("cushion", x.cushion(0, 99), 0);
        due.is("cushion again", x.cushion(0, 0), 99);
        due.is("cushion 100", x.cushion(0, 100), BAD);
        due.is("cushion -1", x.cushion(0, -1), BAD);
        due.is("cushion at 9", x.cushion(9, 0), BAD);
        due.is("cushion at -1", x.cushion(-1, 0), BAD);
        int[] tops = {99, 2, 100, 100};
        int[] firsts = {1, 0, 50, 10};
        for (int what = 0; what < 4; what++) {
            due.is("rule top", x.rule(what, tops[what]), firsts[what]);
            due.is("rule above", x.rule(what, tops[what] + 1), BAD);
            due.is("rule below", x.rule(what, -1), BAD);
            due.is("rule counted", x.count(5 + what), tops[what]);
            due.is("rule 0", x.rule(what, 0), tops[what]);
        }
        due.is("rule what 4", x.rule(4, 0), BAD);
        due.is("rule what -1", x.rule(-1, 0), BAD);
    }

    private static void dealAndSeed() {
        BenchSeats x = new BenchSeats();
        due.is("seed", x.seed(4), 1);
        due.is("deal 0", x.deal(0), BAD);
        due.is("deal 13", x.deal(13), BAD);
        due.is("no draw behind a refusal", x.count(12), 4);
        due.is("deal", x.deal(10), 10);
        int z = 4;
        for (int i = 0; i < 10; i++) {
            z = z * 1103515245 + 12345;
            due.is("drawn kind", x.told(i, 0), (z >>> 8) % 6);
        }
        due.is("deal: room for two", x.deal(12), 2);
        z = (z * 1103515245 + 12345) * 1103515245 + 12345;
        due.is("two draws", x.count(12), z);
        due.is("deal: no room", x.deal(1), 0);
        due.is("no draws", x.seed(Integer.MIN_VALUE), z);
        due.is("seed told", x.seed(0), Integer.MIN_VALUE);
    }

    public static void main(String[] args) {
        newObject();
        bench();
        sitterAndTold();
        worthOfThoseWhoSat();
        allMaySit();
        asAndTurns();
        sitsAndRises();
        ringOfFive();
        penniesAreHeld();
        cushionAndRule();
        dealAndSeed();
        due.end("SittersTest");
    }
}
