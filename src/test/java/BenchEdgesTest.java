/** The boundary cases of promises 1 to 13: the bench, sitters. */
public final class BenchEdgesTest {
    private static final int BAD = BenchSeats.BAD, NO = BenchSeats.NO, FULL = BenchSeats.FULL, NONE = BenchSeats.NONE,
        NOTHING = BenchSeats.NOTHING, KIND = BenchSeats.KIND;
    private static final int LOW = Integer.MIN_VALUE, HIGH = Integer.MAX_VALUE;
    private static final int SITTER = 0, WIDE = 1, FRIEND = 2, FAT = 3, TWIN = 4, SHY = 5;
    private static final Edge due = new Edge();

    private static void newObject() {
        BenchSeats x = new BenchSeats();
        int[] counts = {0, 9, 0, 0, 0, 1, 0, 50, 10, 0, 0, 0, 1};
        for (int i = 0; i < counts.length; i++) {
            due.is(1, "count " + i + " at first", x.count(i), counts[i]);
        }
        for (int i = 0; i < 4; i++) {
            due.is(1, "inn " + i + " at first", x.inn(i), 0);
        }
        for (int p = 0; p < 9; p++) {
            due.is(1, "nobody at " + p, x.who(p), NONE);
            due.is(1, "CUSHION of " + p, x.cushion(p, 0), 0);
        }
        due.is(1, "no place 9", x.who(9), BAD);
        due.is(1, "no SITTER 0", x.told(0, 0), BAD);
        due.is(1, "no TEXT 0", x.textTold(0, 0), BAD);
        for (int key = 0; key < 3; key++) {
            due.is(1, "no TEXT of KEY " + key, x.why(key), NONE);
        }
        for (int i = 0; i < 4; i++) {
            due.is(1, "SHEET " + i + " is MISSING", x.reads(i), NOTHING);
        }
        for (int i = 0; i < 5; i++) {
            due.is(1, "SLOT " + i + " holds nothing", x.ask(i, 0), NOTHING);
        }
        due.is(1, "no IMAGE", x.back(), NO);
        due.is(1, "THE TAPE is empty", x.text(), -100);
        x.sitter(FAT);
        due.is(1, "a ROW, whose WALLS are nobody", x.told(0, 5), 0b011111111);
        due.is(1, "a new SITTER stands", x.told(0, 1), -1);
    }

    private static void benchRefusals() {
        int[][] wrong = {{0, 0, 0}, {13, 0, 0}, {-1, 0, 0}, {LOW, 0, 0}, {HIGH, 0, 0}, {9, -1, 0}, {9, 2, 0},
            {9, LOW, 0}, {9, HIGH, 0}, {9, 0, -1}, {9, 0, 2}, {9, 0, LOW}, {9, 0, HIGH}, {0, 2, 0}, {13, 0, -1},
            {9, 2, 2}, {0, -1, 2}};
        for (int[] w : wrong) {
            due.refused(2, "bench " + w[0] + " " + w[1] + " " + w[2], x -> x.bench(w[0], w[1], w[2]), BAD);
        }
    }

    private static void benchBounds() {
        for (int n = 1; n <= 12; n++) {
            for (int way = 0; way < 4; way++) {
                BenchSeats x = new BenchSeats();
                due.is(2, "nobody sat", x.bench(n, way & 1, way >> 1), 0);
                due.is(2, "N", x.count(1), n);
                due.is(2, "RING", x.count(2), way & 1);
                due.is(2, "WALL", x.count(3), way >> 1);
                due.is(2, "the last PLACE is there", x.who(n - 1), NONE);
                due.is(2, "none is behind it", x.who(n), BAD);
            }
        }
    }

    private static void benchAnew() {
        BenchSeats x = new BenchSeats();
        Edge.fullRing(x);
        for (int p = 0; p < 12; p++) {
            x.cushion(p, p + 1);
        }
        Edge.waitUntil(x, 1);
        int till = x.inn(1), z = x.count(12);
        due.is(2, "how many sat", x.bench(1, 0, 0), 12);
        due.is(2, "all stand", x.inn(3), 4095);
        due.is(2, "TILL stays", x.inn(1), till);
        due.is(2, "THE MINUTE stays", x.count(4), 1);
        due.is(2, "z stays", x.count(12), z);
        for (int k = 0; k < 12; k++) {
            due.is(2, "SAT stays", x.told(k, 3), 1);
            due.is(2, "PENNIES stay", x.told(k, 2), -1);
        }
        due.is(2, "nobody sat on the small one", x.bench(12, 1, 0), 0);
        for (int p = 0; p < 12; p++) {
            due.is(2, "CUSHION of " + p + " is 0, too, though it was out of the small one", x.cushion(p, 0), 0);
        }
        x = new BenchSeats();
        Edge.fullRing(x);
        due.is(2, "all twelve sat", x.bench(12, 1, 0), 12);
        due.is(2, "the same bench again: all stand", x.inn(0), 0);
        x = new BenchSeats();
        Edge.seat(x, WIDE, 7);
        x.rule(0, 9);
        x.rule(1, 1);
        x.rule(2, 2);
        x.rule(3, 3);
        due.is(2, "a WIDE one is one that sat", x.bench(12, 0, 1), 1);
        int[] rules = {9, 1, 2, 3};
        for (int what = 0; what < 4; what++) {
            due.is(2, "rule " + what + " stays", x.count(5 + what), rules[what]);
        }
        due.is(2, "KINDS stay", x.told(0, 0), WIDE);
    }

    private static void sitter() {
        for (int kind : new int[] {-1, 6, LOW, HIGH}) {
            due.refused(3, "KIND " + kind, x -> x.sitter(kind), BAD);
            due.refused(3, "KIND " + kind + " ahead of FULL", Edge::fillUp, x -> x.sitter(kind), BAD);
        }
        for (int kind = 0; kind < 6; kind++) {
            int one = kind;
            due.refused(3, "a thirteenth", Edge::fillUp, x -> x.sitter(one), FULL);
        }
        BenchSeats x = new BenchSeats();
        for (int k = 0; k < 12; k++) {
            due.is(3, "its number", x.sitter(5 - k % 6), k);
            due.is(3, "how many", x.count(0), k + 1);
            due.is(3, "KIND", x.told(k, 0), 5 - k % 6);
            due.is(3, "standing", x.told(k, 1), -1);
            due.is(3, "PENNIES", x.told(k, 2), 0);
            due.is(3, "SAT", x.told(k, 3), 0);
        }
        x = new BenchSeats();
        x.keep();
        Edge.seat(x, SITTER, 0);
        x.back();
        due.is(3, "again the first", x.sitter(WIDE), 0);
        due.is(3, "it stands, though another one of this number sat", x.told(0, 1), -1);
        due.is(3, "it has paid nothing", x.told(0, 2), 0);
        due.is(3, "it has not sat down", x.told(0, 3), 0);
    }

    private static void toldRefusals() {
        int[][] wrong = {{-1, 0}, {7, 0}, {LOW, 0}, {HIGH, 0}, {12, 6}, {0, -1}, {0, 7}, {6, LOW}, {6, HIGH}, {7, 7},
            {-1, -1}};
        for (int[] w : wrong) {
            due.refused(4, "told " + w[0] + " " + w[1], x -> x.told(w[0], w[1]), BAD);
        }
        for (int what = 0; what <= 6; what++) {
            due.is(4, "without SITTERS", new BenchSeats().told(0, what), BAD);
        }
        BenchSeats x = new BenchSeats();
        Edge.fillUp(x);
        due.is(4, "the last of twelve", x.told(11, 6), 0);
        due.is(4, "none behind it", x.told(12, 6), BAD);
    }

    private static void toldOfOneThatSits() {
        BenchSeats x = new BenchSeats();
        x.bench(5, 1, 0);
        x.sitter(WIDE);
        due.is(4, "takes none, as long as it stands", x.told(0, 4), 0);
        due.is(4, "may sit over the seam, too", x.told(0, 5), 0b11111);
        x.sits(0, 4);
        due.is(4, "AT the last", x.told(0, 1), 4);
        due.is(4, "takes the last and the first", x.told(0, 4), 0b10001);
        due.is(4, "one that sits may sit nowhere", x.told(0, 5), 0);
        x.rises(0);
        due.is(4, "takes none again", x.told(0, 4), 0);
        due.is(4, "may sit again", x.told(0, 5), 0b11111);
        x.sits(0, 3);
        due.is(4, "takes the last two", x.told(0, 4), 0b11000);
        x = new BenchSeats();
        x.bench(1, 0, 0);
        for (int kind = 0; kind < 6; kind++) {
            x.sitter(kind);
        }
        x.sits(0, 0);
        for (int kind = 0; kind < 6; kind++) {
            due.is(4, "on a full bench none may sit", x.told(kind, 5), 0);
        }
    }

    /** What those of all six kinds may take beside the same neighbours. */
    private static void maySit(String which, int n, int ring, int wall, int[][] seated, int... want) {
        BenchSeats x = new BenchSeats();
        x.bench(n, ring, wall);
        for (int kind = 0; kind < 6; kind++) {
            x.sitter(kind);
        }
        for (int[] s : seated) {
            Edge.seat(x, s[0], s[1]);
        }
        due.is(4, which + ": all sit that should", x.inn(2), seated.length);
        for (int kind = 0; kind < 6; kind++) {
            due.is(4, which + ": KIND " + kind, x.told(kind, 5), want[kind]);
            for (int p = 0; p < n; p++) {
                BenchSeats y = new BenchSeats();
                y.bench(n, ring, wall);
                y.sitter(kind);
                for (int[] s : seated) {
                    Edge.seat(y, s[0], s[1]);
                }
                due.is(7, which + ": KIND " + kind + " AT " + p, y.sits(0, p) == NO ? 0 : 1, want[kind] >> p & 1);
            }
        }
    }

    private static void allMaySit() {
        int[][] nobody = {};
        maySit("one PLACE between WALLS that are nobody", 1, 0, 0, nobody, 1, 0, 1, 0, 1, 1);
        maySit("one PLACE between WALLS that are somebody", 1, 0, 1, nobody, 1, 0, 1, 0, 1, 0);
        maySit("one PLACE beside itself", 1, 1, 0, nobody, 1, 0, 1, 0, 1, 1);
        maySit("one PLACE beside itself: no WALL there", 1, 1, 1, nobody, 1, 0, 1, 0, 1, 1);
        maySit("two PLACES between WALLS that are nobody", 2, 0, 0, nobody, 3, 1, 3, 1, 3, 3);
        maySit("two PLACES between WALLS that are somebody", 2, 0, 1, nobody, 0, 1, 0, 0, 3, 0);
        maySit("a ROW of two, the first taken", 2, 0, 0, new int[][] {{SITTER, 0}}, 0, 0, 0, 0, 2, 0);
        maySit("a ROW of two, the last taken", 2, 0, 0, new int[][] {{SITTER, 1}}, 0, 0, 0, 0, 1, 0);
        maySit("beside a FRIEND and a WALL", 2, 0, 0, new int[][] {{FRIEND, 0}}, 0, 0, 2, 0, 2, 0);
        maySit("beside a TWIN and a WALL", 2, 0, 0, new int[][] {{TWIN, 1}}, 0, 0, 1, 0, 1, 0);
        maySit("two PLACES round a tree", 2, 1, 0, nobody, 3, 3, 3, 3, 3, 3);
        maySit("two round a tree: no WALL there", 2, 1, 1, nobody, 3, 3, 3, 3, 3, 3);
        maySit("the same one on both SIDES", 2, 1, 0, new int[][] {{SITTER, 1}}, 1, 0, 1, 0, 1, 0);
        maySit("three PLACES round a tree, one SIDE for a WIDE one", 3, 1, 0, nobody, 7, 7, 7, 7, 7, 7);
        maySit("a WIDE one with the same one on both SIDES", 3, 1, 1, new int[][] {{SITTER, 1}}, 0, 4, 0, 0, 5, 0);
        maySit("over the seam between two", 4, 1, 0, new int[][] {{WIDE, 1}}, 0, 8, 0, 0, 9, 0);
        maySit("the seam itself taken", 4, 1, 0, new int[][] {{WIDE, 3}}, 0, 2, 0, 0, 6, 0);
        maySit("the middle of three between WALLS", 3, 0, 1, nobody, 2, 0, 2, 0, 7, 2);
        maySit("between somebody and a WALL that is somebody", 3, 0, 1, new int[][] {{SITTER, 1}}, 5, 0, 5, 0, 5, 0);
        maySit("a WIDE one beside both WALLS", 4, 0, 1, nobody, 6, 2, 6, 2, 15, 6);
        maySit("a WIDE one between WALL and sitter", 3, 0, 0, new int[][] {{SITTER, 0}}, 4, 0, 4, 0, 6, 4);
        maySit("a WIDE one between WALL that is somebody and sitter", 3, 0, 1, new int[][] {{TWIN, 0}},
            0, 2, 2, 0, 6, 0);
        maySit("one free PLACE is too small for a WIDE one", 3, 0, 0, new int[][] {{SITTER, 0}, {SITTER, 2}},
            2, 0, 2, 0, 2, 0);
        maySit("a FRIEND over the seam", 5, 1, 0, new int[][] {{FRIEND, 4}}, 6, 2, 15, 2, 15, 6);
        maySit("a FRIEND is no friend of a WALL", 5, 0, 1, new int[][] {{SITTER, 2}}, 0, 9, 0, 0, 27, 0);
        maySit("all of twelve in a RING", 12, 1, 0, nobody, 4095, 4095, 4095, 4095, 4095, 4095);
        maySit("all of twelve in a ROW", 12, 0, 0, nobody, 4095, 2047, 4095, 2047, 4095, 4095);
    }

    /** Three sit at 0, 4 and 8; one that stands, of this number and kind, may sit there. */
    private static int besideThree(int number, int kind, int... seatedKinds) {
        BenchSeats x = new BenchSeats();
        int next = 0;
        for (int k = 0; k < 4; k++) {
            x.sitter(k == number ? kind : seatedKinds[next++]);
        }
        next = 0;
        for (int k = 0; k < 4; k++) {
            if (k != number) {
                x.sits(k, 4 * next++);
            }
        }
        due.is(4, "three sit", x.inn(0), 0b100010001);
        return x.told(number, 5);
    }

    /** Whatever numbers the friends bear, and however many of them there are. */
    private static void friendsOfAnyNumber() {
        for (int number = 0; number < 4; number++) {
            for (int seated = 0; seated < 8; seated++) {
                int[] kinds = new int[3];
                // Between none lie 2 and 6; the friends' own neighbours come to them.
                int want = 0b001000100;
                int[] beside = {0b000000010, 0b000101000, 0b010000000};
                for (int k = 0; k < 3; k++) {
                    kinds[k] = (seated >> k & 1) == 0 ? SHY : k == 1 ? TWIN : FRIEND;
                    want |= (seated >> k & 1) == 0 ? 0 : beside[k];
                }
                String which = "number " + number + " beside friends " + seated;
                due.is(4, "FRIEND, " + which, besideThree(number, FRIEND, kinds), want);
                due.is(4, "TWIN, " + which, besideThree(number, TWIN, kinds), 0b011101110);
                due.is(4, "SITTER, " + which, besideThree(number, SITTER, kinds), 0b001000100);
                due.is(4, "SHY, " + which, besideThree(number, SHY, kinds), 0b001000100);
                due.is(4, "WIDE, " + which, besideThree(number, WIDE, kinds), 0);
                due.is(4, "FAT, " + which, besideThree(number, FAT, kinds), 0);
            }
        }
    }

    private static void worth() {
        for (int sat : new int[] {0, 1, 99, 100, 101}) {
            int[] want = {sat, sat + 6, 99 - sat, 2 * (sat + 6), 95 - sat, 3};
            for (int kind = 0; kind < 6; kind++) {
                BenchSeats x = new BenchSeats();
                x.sitter(kind);
                // What it pays is no part of what it is worth.
                x.rule(0, 23);
                x.rule(2, 100);
                x.rule(3, 100);
                // With nobody else each minute it sits down and rises.
                for (int left = sat; left > 0; left -= 100) {
                    x.minutes(Math.min(100, left));
                }
                due.is(4, "SAT", x.told(0, 3), sat);
                due.is(4, "WORTH of KIND " + kind + ", SAT " + sat, x.told(0, 6), want[kind]);
            }
        }
    }

    private static void asOne() {
        int[][] wrong = {{-1, 0}, {7, 0}, {LOW, 0}, {HIGH, 0}, {0, -1}, {0, 6}, {0, LOW}, {0, HIGH}, {-1, 6}, {7, 5},
            {7, -1}};
        for (int[] w : wrong) {
            due.refused(5, "as " + w[0] + " " + w[1], x -> x.as(w[0], w[1]), BAD);
        }
        due.is(5, "without SITTERS", new BenchSeats().as(0, 0), BAD);
        int[] ofKind = {0b111111, 0b001010, 0b010100, 0b001000, 0b010000, 0b100000};
        for (int kind = 0; kind < 6; kind++) {
            for (int wanted = 0; wanted < 6; wanted++) {
                BenchSeats x = new BenchSeats();
                Edge.seat(x, kind, 0);
                int want = (ofKind[wanted] >> kind & 1) == 1 ? 1 : KIND;
                due.is(5, "KIND " + kind + " as " + wanted, x.as(0, wanted), want);
            }
        }
        due.refused(5, "a WIDE one as FAT", x -> x.as(1, FAT), KIND);
        due.refused(5, "a SITTER as SHY", x -> x.as(0, SHY), KIND);
        due.asks(5, "the last SITTER as the first KIND", x -> { }, x -> x.as(6, 0), 0);
    }

    private static void turns() {
        int[][] wrong = {{-1, 0}, {7, 0}, {LOW, 0}, {HIGH, 0}, {2, -1}, {2, 6}, {2, LOW}, {2, HIGH}, {7, 6}, {0, -1},
            {0, 6}};
        for (int[] w : wrong) {
            due.refused(6, "turns " + w[0] + " " + w[1] + " (0 sits: BAD ahead of NO)", x -> x.turns(w[0], w[1]), BAD);
        }
        due.is(6, "without SITTERS", new BenchSeats().turns(0, 0), BAD);
        for (int kind = 0; kind < 6; kind++) {
            int one = kind;
            due.refused(6, "one that sits, AT 0", x -> x.turns(0, one), NO);
            due.refused(6, "one that sits elsewhere", x -> x.turns(5, one), NO);
        }
        BenchSeats x = new BenchSeats();
        Edge.seat(x, SITTER, 0);
        x.rises(0);
        int was = SITTER;
        for (int kind : new int[] {5, 0, 4, 1, 3, 3, 2}) {
            due.is(6, "what it was", x.turns(0, kind), was);
            due.is(6, "what it is", x.told(0, 0), kind);
            was = kind;
        }
        due.is(6, "SAT stays", x.told(0, 3), 1);
        due.is(6, "PENNIES stay", x.told(0, 2), -1);
        due.is(6, "still standing", x.told(0, 1), -1);
    }

    private static void sitsRefusals() {
        int[][] wrong = {{-1, 2}, {7, 2}, {LOW, 2}, {HIGH, 2}, {2, -1}, {2, 9}, {2, LOW}, {2, HIGH}, {7, 9}, {-1, -1},
            {7, 0}, {0, 9}, {0, -1}, {2, 32}};
        for (int[] w : wrong) {
            due.refused(7, "sits " + w[0] + " " + w[1] + " (0 sits: BAD ahead of NO)", x -> x.sits(w[0], w[1]), BAD);
        }
        due.is(7, "without SITTERS", new BenchSeats().sits(0, 0), BAD);
        due.refused(7, "it sits already, where another one may", x -> x.sits(0, 5), NO);
        due.refused(7, "it sits there already", x -> x.sits(0, 0), NO);
        due.refused(7, "the first PLACE is taken", x -> x.sits(2, 0), NO);
        due.refused(7, "taken by a WIDE one's second PLACE", x -> x.sits(4, 4), NO);
        due.refused(7, "somebody ahead of it alone", x -> x.sits(2, 1), NO);
        due.refused(7, "somebody behind it alone, over the seam", x -> x.sits(2, 8), NO);
        due.refused(7, "a FAT one with somebody ahead", x -> x.sits(3, 1), NO);
        due.refused(7, "a FAT one with somebody on both SIDES", x -> x.sits(3, 7), NO);
        due.refused(7, "a FAT one whose second PLACE is taken", x -> x.sits(3, 5), NO);
        due.refused(7, "a SHY one between two", x -> x.turns(2, SHY), x -> x.sits(2, 5), NO);
        due.refused(7, "a WIDE one AT the last PLACE of a ROW", x -> x.bench(9, 0, 0), x -> x.sits(1, 8), NO);
        due.refused(7, "a WIDE one on one PLACE", x -> x.bench(1, 1, 0), x -> x.sits(1, 0), NO);
        due.asks(7, "told where it may sit", x -> { }, x -> x.told(2, 5), 0b000100000);
    }

    private static void pays(int want, int kind, int price, int cushion) {
        BenchSeats x = new BenchSeats();
        x.rule(0, price);
        x.cushion(4, cushion);
        due.is(7, "KIND " + kind + ", PRICE " + price + ", CUSHION " + cushion, Edge.seat(x, kind, 4), want);
        due.is(7, "PENNIES so much less", x.told(0, 2), -want);
        due.is(7, "TILL so much more", x.inn(1), want);
        due.is(7, "SAT 1 more", x.told(0, 3), 1);
        due.is(7, "AT", x.told(0, 1), 4);
    }

    private static void paysByFare(int want, int kind, String fare) {
        BenchSeats x = new BenchSeats();
        due.is(7, "\"" + fare + "\"", Due.text(x, fare), 0);
        due.is(7, "KIND " + kind + " by " + fare, Edge.seat(x, kind, 0), want);
    }

    private static void allPay() {
        int[][] rows = {{0, 0, 0, -2, 1, -1, 0}, {99, 99, 396, 196, 397, 98, 198}, {1, 0, 2, -1, 3, 0, 1},
            {3, 0, 6, 1, 7, 0, 3}, {0, 99, 198, 97, 199, 48, 99}};
        for (int[] r : rows) {
            pays(r[0] + r[1], SITTER, r[0], r[1]);
            pays(r[2], WIDE, r[0], r[1]);
            pays(r[3], FRIEND, r[0], r[1]);
            pays(r[4], FAT, r[0], r[1]);
            pays(r[5], TWIN, r[0], r[1]);
            pays(r[6], SHY, r[0], r[1]);
        }
        String[] fares = {"fare 998", "fare 999", "fare 1000", "fare 9999*9999", "fare 0-998", "fare 0-999",
            "fare 0-1000", "fare 0-9999*9999"};
        int[] held = {998, 999, 999, 999, -998, -999, -999, -999};
        for (int i = 0; i < fares.length; i++) {
            paysByFare(held[i], SITTER, fares[i]);
            paysByFare(2 * held[i], WIDE, fares[i]);
            paysByFare(held[i] - 2, FRIEND, fares[i]);
            paysByFare(2 * held[i] + 1, FAT, fares[i]);
            paysByFare((held[i] - 2) / 2, TWIN, fares[i]);
            paysByFare(held[i], SHY, fares[i]);
        }
        paysByFare(-500, TWIN, "fare 0-999");
        paysByFare(498, TWIN, "fare 999");
    }

    /** Where a WIDE one sits over the seam it pays for the place AT which it is. */
    private static void paysAtTheSeam() {
        BenchSeats x = new BenchSeats();
        x.bench(4, 1, 0);
        x.cushion(3, 20);
        x.cushion(0, 5);
        due.is(7, "CUSHION of the PLACE AT which it is", Edge.seat(x, WIDE, 3), 42);
        due.is(7, "who", x.inn(0), 0b1001);
    }

    private static void penniesAreHeld() {
        for (int sign : new int[] {1, -1}) {
            BenchSeats x = new BenchSeats();
            x.sitter(SITTER);
            String minus = sign < 0 ? "0-" : "";
            int till = 0;
            int[] pay = {999, 999, 999, 999, 999, 999, 999, 999, 999, 999, 8, 1, 1, 999};
            int[] pennies = {999, 1998, 2997, 3996, 4995, 5994, 6993, 7992, 8991, 9990, 9998, 9999, 9999, 9999};
            for (int i = 0; i < pay.length; i++) {
                Due.text(x, "fare " + minus + pay[i]);
                due.is(7, "it pays in full", x.sits(0, 8), sign * pay[i]);
                till += sign * pay[i];
                due.is(7, "PENNIES are held", x.told(0, 2), -sign * pennies[i]);
                due.is(7, "TILL is not", x.inn(1), till);
                x.rises(0);
            }
            due.is(7, "fourteen TEXTS were told", x.count(9), 14);
        }
    }

    private static void satAheadOfIt() {
        BenchSeats x = new BenchSeats();
        x.sitter(SITTER);
        Due.text(x, "fare s");
        for (int i = 0; i < 3; i++) {
            due.is(7, "SAT as it is ahead of it", x.sits(0, 8), i);
            x.rises(0);
        }
    }

    /** Each name of fare by itself, where no two of them are alike. */
    private static void namesOfFare() {
        String[] fares = {"fare p", "fare c", "fare s", "fare p*100+c*10+s"};
        int[] want = {5, 7, 2, 572};
        for (int i = 0; i < fares.length; i++) {
            BenchSeats x = new BenchSeats();
            x.sitter(SITTER);
            for (int sat = 0; sat < 2; sat++) {
                x.sits(0, 8);
                x.rises(0);
            }
            x.rule(0, 5);
            x.cushion(3, 7);
            x.cushion(4, 9);
            Due.text(x, fares[i]);
            due.is(7, fares[i], x.sits(0, 3), want[i]);
        }
    }

    private static void rises() {
        for (int sitter : new int[] {-1, 7, LOW, HIGH}) {
            due.refused(8, "rises " + sitter, x -> x.rises(sitter), BAD);
        }
        due.is(8, "without SITTERS", new BenchSeats().rises(0), BAD);
        for (int sitter : new int[] {2, 3, 4, 6}) {
            due.refused(8, "one that stands", x -> x.rises(sitter), NO);
        }
        BenchSeats x = new BenchSeats();
        x.bench(12, 1, 0);
        Edge.seat(x, SITTER, 6);
        Edge.seat(x, WIDE, 11);
        due.is(8, "from the last PLACE", x.rises(1), 11);
        due.is(8, "it stands then", x.rises(1), NO);
        due.is(8, "both its PLACES are free", x.inn(0), 1 << 6);
        due.is(8, "SAT stays", x.told(1, 3), 1);
        due.is(8, "PENNIES stay", x.told(1, 2), -2);
        due.is(8, "TILL stays", x.inn(1), 3);
        due.is(8, "down again", x.sits(1, 0), 2);
        due.is(8, "from the first PLACE", x.rises(1), 0);
    }

    private static void who() {
        for (int place : new int[] {-1, 9, LOW, HIGH, 32}) {
            due.refused(9, "who " + place, x -> x.who(place), BAD);
        }
        int[] want = {0, NONE, NONE, 1, 1, NONE, 5, NONE, NONE};
        for (int p = 0; p < 9; p++) {
            int place = p;
            due.asks(9, "who takes " + p, x -> { }, x -> x.who(place), want[p]);
        }
        BenchSeats x = new BenchSeats();
        Edge.fullRing(x);
        for (int p = 0; p < 12; p++) {
            due.is(9, "all full", x.who(p), p / 2 + p % 2 * 6);
        }
        x.bench(3, 1, 0);
        due.is(9, "no PLACE behind the last of three", x.who(3), BAD);
        x.turns(11, FAT);
        x.sits(11, 2);
        due.is(9, "the last SITTER, AT the last", x.who(2), 11);
        due.is(9, "over the seam", x.who(0), 11);
        due.is(9, "nobody between", x.who(1), NONE);
        x.rises(11);
        due.is(9, "risen", x.who(0), NONE);
    }

    private static void cushion() {
        int[][] wrong = {{-1, 0}, {9, 0}, {LOW, 0}, {HIGH, 0}, {0, -1}, {0, 100}, {8, LOW}, {8, HIGH}, {9, 100},
            {-1, -1}};
        for (int[] w : wrong) {
            due.refused(10, "cushion " + w[0] + " " + w[1], x -> x.cushion(w[0], w[1]), BAD);
        }
        for (int n : new int[] {1, 12}) {
            BenchSeats x = new BenchSeats();
            x.bench(n, 0, 0);
            due.is(10, "behind the last PLACE", x.cushion(n, 5), BAD);
            for (int p : new int[] {0, n - 1}) {
                due.is(10, "at first", x.cushion(p, 99), 0);
                due.is(10, "the greatest", x.cushion(p, 1), 99);
                due.is(10, "what it was", x.cushion(p, 0), 1);
                due.is(10, "the least", x.cushion(p, 0), 0);
            }
        }
        BenchSeats x = new BenchSeats();
        x.cushion(3, 44);
        Edge.seat(x, SITTER, 3);
        due.is(10, "of a PLACE that is taken, too", x.cushion(3, 45), 44);
        due.is(10, "no other one is otherwise", x.cushion(2, 0) + x.cushion(4, 0), 0);
    }

    private static void rule() {
        int[] tops = {99, 2, 100, 100};
        int[] firsts = {1, 0, 50, 10};
        for (int what = 0; what < 4; what++) {
            for (int v : new int[] {-1, tops[what] + 1, LOW, HIGH}) {
                int one = what;
                due.refused(11, "rule " + what + " " + v, x -> x.rule(one, v), BAD);
            }
            BenchSeats x = new BenchSeats();
            due.is(11, "what it was at first", x.rule(what, tops[what]), firsts[what]);
            due.is(11, "the greatest", x.count(5 + what), tops[what]);
            due.is(11, "what it was", x.rule(what, 0), tops[what]);
            due.is(11, "the least", x.count(5 + what), 0);
            due.is(11, "what it was then", x.rule(what, 1), 0);
            for (int other = 0; other < 4; other++) {
                due.is(11, "no other one is otherwise", x.count(5 + other), other == what ? 1 : firsts[other]);
            }
        }
        int[][] wrong = {{-1, 0}, {4, 0}, {LOW, 0}, {HIGH, 0}, {4, 101}, {-1, -1}};
        for (int[] w : wrong) {
            due.refused(11, "rule " + w[0] + " " + w[1], x -> x.rule(w[0], w[1]), BAD);
        }
    }

    private static void deal() {
        for (int n : new int[] {0, 13, -1, LOW, HIGH}) {
            due.refused(12, "deal " + n, x -> x.deal(n), BAD);
            due.refused(12, "deal " + n + " without room", Edge::fillUp, x -> x.deal(n), BAD);
        }
        due.asks(12, "no room, no draws", Edge::fillUp, x -> x.deal(1), 0);
        due.asks(12, "no room for twelve, no draws", Edge::fillUp, x -> x.deal(12), 0);
        for (int n : new int[] {1, 2, 11, 12}) {
            for (int had : new int[] {0, 1, 10, 11}) {
                BenchSeats x = new BenchSeats();
                for (int k = 0; k < had; k++) {
                    x.sitter(SITTER);
                }
                x.seed(HIGH);
                int came = Math.min(n, 12 - had);
                due.is(12, "as many as there is room for", x.deal(n), came);
                due.is(12, "a draw for each that came", x.count(12), Edge.drawn(HIGH, came));
                due.is(12, "how many there are", x.count(0), had + came);
                for (int k = 0; k < came; k++) {
                    due.is(12, "KIND by its draw", x.told(had + k, 0), Edge.rest(HIGH, k + 1, 6));
                    due.is(12, "standing", x.told(had + k, 1), -1);
                }
            }
        }
    }

    private static void seed() {
        BenchSeats x = new BenchSeats();
        int was = 1;
        for (int v : new int[] {LOW, HIGH, 0, -1, 1, BAD}) {
            due.is(13, "what it was", x.seed(v), was);
            due.is(13, "z told", x.count(12), v);
            was = v;
        }
        for (int v : new int[] {LOW, HIGH, 0, -1, 1, BAD, 255, 256, -256}) {
            x = new BenchSeats();
            x.seed(v);
            x.deal(1);
            due.is(13, "a draw wraps round", x.count(12), v * 1103515245 + 12345);
            due.is(13, "what it gives is never below 0", x.told(0, 0), (v * 1103515245 + 12345 >>> 8) % 6);
        }
    }

    public static void main(String[] args) {
        newObject();
        benchRefusals();
        benchBounds();
        benchAnew();
        sitter();
        toldRefusals();
        toldOfOneThatSits();
        allMaySit();
        friendsOfAnyNumber();
        worth();
        asOne();
        turns();
        sitsRefusals();
        allPay();
        paysAtTheSeam();
        penniesAreHeld();
        satAheadOfIt();
        namesOfFare();
        rises();
        who();
        cushion();
        rule();
        deal();
        seed();
        due.end("BenchEdgesTest", 1, 2, 3, 4, 5, 6, 7, 8, 9, 10, 11, 12, 13);
    }
}
