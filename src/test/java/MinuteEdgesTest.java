/** The boundary cases of promises 14, 15 and 19 to 21: minutes, and what will be. */
public final class MinuteEdgesTest {
    private static final int BAD = BenchSeats.BAD, NONE = BenchSeats.NONE;
    private static final int LOW = Integer.MIN_VALUE, HIGH = Integer.MAX_VALUE;
    private static final int SITTER = 0, WIDE = 1, FRIEND = 2, FAT = 3, TWIN = 4, SHY = 5;
    private static final Edge due = new Edge();

    /** An inn where each minute somebody would come, or rise, or not, by these rules. */
    private static BenchSeats by(int rule, int come, int rise) {
        BenchSeats x = new BenchSeats();
        x.rule(1, rule);
        x.rule(2, come);
        x.rule(3, rise);
        return x;
    }

    private static void minuteRefusals() {
        for (int n : new int[] {0, 101, -1, LOW, HIGH}) {
            due.refused(14, "minutes " + n, x -> x.minutes(n), BAD);
            due.refused(14, "minutes " + n + " behind the last", x -> Edge.waitUntil(x, 9999), x -> x.minutes(n), BAD);
        }
    }

    private static void minuteBounds() {
        BenchSeats x = by(1, 100, 100);
        x.sitter(SITTER);
        due.is(14, "one MINUTE", x.minutes(1), 1);
        due.is(14, "THE MINUTE is 1 more", x.count(4), 1);
        due.is(14, "a hundred MINUTES, one in each", x.minutes(100), 100);
        due.is(14, "THE MINUTE is 100 more", x.count(4), 101);
        due.is(14, "three draws in each", x.count(12), Edge.drawn(1, 303));
        due.is(14, "all paid", x.inn(1), 101);
        due.is(14, "who sits down rises in the same MINUTE", x.told(0, 1), -1);
    }

    private static void lastMinute() {
        BenchSeats x = by(1, 100, 100);
        x.sitter(SITTER);
        Edge.waitUntil(x, 9900);
        int z = x.count(12);
        due.is(14, "ninety-nine of a hundred", x.minutes(100), 99);
        due.is(14, "the last", x.count(4), 9999);
        due.is(14, "no draws for others", x.count(12), Edge.drawn(z, 297));
        due.asks(14, "none behind the last", y -> Edge.waitUntil(y, 9999), y -> y.minutes(1), 0);
        due.asks(14, "no hundred behind the last", y -> Edge.waitUntil(y, 9999), y -> y.minutes(100), 0);
        x = by(1, 100, 0);
        x.sitter(SITTER);
        Edge.waitUntil(x, 9998);
        due.is(14, "one ahead of the last", x.minutes(1), 1);
        due.is(14, "the last again", x.count(4), 9999);
    }

    private static void come() {
        for (int rest : new int[] {0, 1, 50, 98, 99}) {
            int seed = Edge.seedFor(1, 100, rest);
            BenchSeats x = by(1, rest, 0);
            x.sitter(SITTER);
            x.seed(seed);
            due.is(14, "a rest of " + rest + " is not below COME", x.minutes(1), 0);
            due.is(14, "it stands", x.told(0, 1), -1);
            x = by(1, rest + 1, 0);
            x.sitter(SITTER);
            x.seed(seed);
            due.is(14, "a rest of " + rest + " is below COME", x.minutes(1), 1);
            due.is(14, "it sits", x.told(0, 1), 0);
        }
    }

    private static void rise() {
        for (int rest : new int[] {0, 1, 50, 98, 99}) {
            int seed = Edge.seedFor(2, 100, rest);
            for (int more = 0; more <= 1; more++) {
                BenchSeats x = by(1, 0, rest + more);
                Edge.seat(x, SITTER, 4);
                x.seed(seed);
                x.minutes(1);
                due.is(14, "a rest of " + rest + " for RISE " + (rest + more), x.told(0, 1), more == 1 ? -1 : 4);
                due.is(14, "one more draw for whom", x.count(12), Edge.drawn(seed, 2 + more));
            }
        }
    }

    private static void whoRises() {
        for (int seated : new int[] {1, 4, 12}) {
            for (int whom : new int[] {0, seated - 1}) {
                BenchSeats x = by(1, 0, 100);
                Edge.fullRing(x);
                for (int k = seated; k < 12; k++) {
                    x.rises(k);
                }
                x.seed(Edge.seedFor(3, 12, whom));
                x.minutes(1);
                due.is(14, "SITTER " + whom + " rises", x.told(whom, 1), -1);
                due.is(14, "and no other one", x.inn(2), seated - 1);
            }
        }
        BenchSeats x = by(1, 0, 100);
        Edge.seat(x, SITTER, 4);
        x.sitter(SITTER);
        x.seed(Edge.seedFor(3, 2, 1));
        x.minutes(1);
        due.is(14, "one that stands does not rise", x.inn(0), 1 << 4);
        due.is(14, "the draw is used up", x.count(12), Edge.drawn(Edge.seedFor(3, 2, 1), 3));
        x = by(0, 100, 100);
        due.is(14, "without SITTERS none comes", x.minutes(1), 0);
        due.is(14, "and nothing is drawn for whom", x.count(12), Edge.drawn(1, 2));
        due.is(14, "THE MINUTE goes by", x.count(4), 1);
    }

    private static void whoComes() {
        BenchSeats x = by(0, 100, 0);
        Edge.seat(x, SITTER, 4);
        due.is(14, "nobody stands", x.minutes(1), 0);
        due.is(14, "no draw for a PLACE", x.count(12), Edge.drawn(1, 2));
        x.bench(1, 0, 0);
        x.turns(0, FAT);
        x.sitter(SITTER);
        due.is(14, "the least that stands may sit nowhere", x.minutes(1), 0);
        due.is(14, "no draw, if there are no PLACES", x.count(12), Edge.drawn(1, 4));
        due.is(14, "the other one, who may, does not", x.told(1, 5), 1);
        for (int rule = 1; rule <= 2; rule++) {
            x = by(rule, 100, 0);
            x.bench(1, 0, 0);
            x.sitter(WIDE);
            due.is(14, "nowhere by RULE " + rule, x.minutes(100), 0);
            due.is(14, "it stands", x.inn(3), 1);
        }
        x = by(1, 100, 0);
        Edge.fullRing(x);
        due.is(14, "all sit", x.minutes(100), 0);
        x.rises(11);
        due.is(14, "the last alone stands", x.minutes(100), 1);
        x.rises(11);
        x.rises(3);
        due.is(14, "the least of two", x.minutes(1), 1);
        due.is(14, "it is", x.inn(3), 1 << 11);
    }

    private static void byLot() {
        int[] places = {0, 1, 2, 6, 7, 8};
        for (int nth : new int[] {0, 1, 4, 5}) {
            BenchSeats x = by(0, 100, 0);
            Edge.seat(x, SITTER, 4);
            x.sitter(SITTER);
            x.seed(Edge.seedFor(2, 6, nth));
            due.is(14, "RULE 0: one comes", x.minutes(1), 1);
            due.is(14, "RULE 0: AT the PLACE that is the rest", x.told(1, 1), places[nth]);
        }
        BenchSeats x = by(0, 100, 0);
        x.bench(1, 0, 0);
        x.sitter(SITTER);
        due.is(14, "RULE 0: one PLACE alone", x.minutes(1), 1);
        due.is(14, "RULE 0: a draw for it all the same", x.count(12), Edge.drawn(1, 3));
    }

    private static void byLeastAndBySoftest() {
        BenchSeats x = by(1, 100, 0);
        x.sitter(SITTER);
        x.cushion(8, 99);
        x.minutes(1);
        due.is(14, "RULE 1: the least", x.told(0, 1), 0);
        due.is(14, "RULE 1: no draw for it", x.count(12), Edge.drawn(1, 2));
        x.rises(0);
        x.rule(1, 2);
        x.minutes(1);
        due.is(14, "RULE 2: the last, whose CUSHION is greatest", x.told(0, 1), 8);
        due.is(14, "RULE 2: no draw for it", x.count(12), Edge.drawn(1, 4));
        x.rises(0);
        x.cushion(5, 99);
        x.minutes(1);
        due.is(14, "RULE 2: of several the least", x.told(0, 1), 5);
        x.bench(9, 0, 1);
        x.minutes(1);
        due.is(14, "RULE 2: all are 0: the least where it MAY", x.told(0, 1), 1);
        x.rises(0);
        x.cushion(0, 99);
        x.cushion(7, 1);
        x.minutes(1);
        due.is(14, "RULE 2: not AT the softest, where it may not", x.told(0, 1), 7);
        x = by(2, 100, 0);
        x.bench(3, 1, 0);
        x.sitter(WIDE);
        x.cushion(2, 1);
        x.minutes(1);
        due.is(14, "a WIDE one over the seam", x.inn(0), 0b101);
        due.is(14, "it paid twice", x.inn(1), 4);
    }

    /** The first place, and the softest, are passed over where one may not sit there. */
    private static void onlyWhereItMay() {
        for (int rule = 1; rule <= 2; rule++) {
            BenchSeats x = by(rule, 100, 0);
            Edge.seat(x, SITTER, 0);
            Edge.seat(x, SITTER, 6);
            x.sitter(SITTER);
            int[] soft = {99, 99, 1, 0, 3, 99, 99, 99, 2};
            for (int p = 0; p < 9; p++) {
                x.cushion(p, soft[p]);
            }
            // Beside 0 and 6 one may not sit; of 2, 3, 4 and 8 the least is 2, the softest 4.
            due.is(14, "RULE " + rule + ": where it MAY", x.told(2, 5), 0b100011100);
            x.minutes(1);
            due.is(14, "RULE " + rule + ": not where it may not", x.told(2, 1), rule == 1 ? 2 : 4);
            x.rises(2);
            x.turns(2, WIDE);
            x.cushion(8, 99);
            x.cushion(3, 98);
            // A WIDE one may sit at 2 and 3 alone: at 8 its second place is not there.
            x.minutes(1);
            due.is(14, "RULE " + rule + ": a WIDE one", x.told(2, 1), rule == 1 ? 2 : 3);
        }
    }

    /** Each place in its turn has the greatest cushion; of two that are alike the lesser is chosen. */
    private static void softestAnywhere() {
        for (int softest = 0; softest < 12; softest++) {
            BenchSeats x = by(2, 100, 0);
            x.bench(12, 0, 0);
            x.sitter(SITTER);
            x.cushion(softest, 2);
            x.cushion((softest + 1) % 12, 1);
            x.cushion((softest + 11) % 12, 1);
            x.minutes(1);
            due.is(14, "RULE 2: the softest of twelve", x.told(0, 1), softest);
            for (int other = 0; other < 12; other++) {
                x.rises(0);
                int was = x.cushion(other, 2);
                x.minutes(1);
                due.is(14, "RULE 2: the lesser of " + softest + ", " + other, x.told(0, 1), Math.min(softest, other));
                x.cushion(other, was);
            }
        }
    }

    private static void inn() {
        for (int what : new int[] {-1, 4, LOW, HIGH}) {
            due.refused(15, "inn " + what, x -> x.inn(what), BAD);
        }
        BenchSeats lived = new BenchSeats();
        Edge.livedIn(lived);
        int paid = 0;
        for (int k = 0; k < 7; k++) {
            paid -= lived.told(k, 2);
        }
        int[] want = {0b001011001, paid, 3, 0b1011100};
        for (int what = 0; what < 4; what++) {
            int one = what;
            due.asks(15, "inn " + what, x -> { }, x -> x.inn(one), want[what]);
        }
        BenchSeats x = new BenchSeats();
        for (int what = 0; what < 4; what++) {
            due.is(15, "without SITTERS", x.inn(what), 0);
        }
        Edge.fullRing(x);
        int[] full = {4095, 12, 12, 0};
        for (int what = 0; what < 4; what++) {
            due.is(15, "all full", x.inn(what), full[what]);
        }
        x.bench(12, 1, 0);
        due.is(15, "all stand", x.inn(3), 4095);
        due.is(15, "none sits", x.inn(2), 0);
        due.is(15, "none is taken", x.inn(0), 0);
        Due.text(x, "fare 0-20");
        x.sits(0, 11);
        due.is(15, "TILL below 0", x.inn(1), -8);
        due.is(15, "the last PLACE", x.inn(0), 1 << 11);
        due.is(15, "eleven stand", x.inn(3), 4094);
    }

    private static void behindRefusals() {
        int[][] wrong = {{-1, 0}, {101, 0}, {LOW, 0}, {HIGH, 0}, {0, -1}, {0, 10}, {100, 10}, {0, LOW}, {0, HIGH},
            {-1, -1}, {101, 10}, {1, 15}};
        for (int[] w : wrong) {
            due.refused(19, "behind " + w[0] + " " + w[1], x -> x.behind(w[0], w[1]), BAD);
        }
        due.is(19, "without SITTERS: AT of none", new BenchSeats().behind(0, 3), BAD);
        for (int what = 0; what <= 2; what++) {
            due.is(19, "without SITTERS", new BenchSeats().behind(100, what), 0);
        }
        BenchSeats x = new BenchSeats();
        Edge.fillUp(x);
        due.is(19, "the last of twelve", x.behind(0, 14), -1);
        due.is(19, "none behind it", x.behind(0, 15), BAD);
    }

    private static void behindBounds() {
        BenchSeats lived = new BenchSeats();
        Edge.livedIn(lived);
        int[] now = {0b001011001, lived.inn(1), 3, 0, 3, -1, -1, -1, 6, -1};
        for (int what = 0; what <= 9; what++) {
            int one = what;
            due.asks(19, "behind 0: as it is now, what " + what, x -> { }, x -> x.behind(0, one), now[what]);
            for (int n : new int[] {1, 99, 100}) {
                BenchSeats y = new BenchSeats();
                Edge.livedIn(y);
                y.minutes(n);
                int want = what < 3 ? y.inn(what) : y.told(what - 3, 1);
                due.asks(19, "behind " + n + ", what " + what, x -> { }, x -> x.behind(n, one), want);
            }
        }
        BenchSeats x = by(1, 100, 0);
        x.sitter(SITTER);
        x.sitter(SITTER);
        Edge.waitUntil(x, 9999);
        due.is(19, "without the bound of THE MINUTE", x.behind(1, 0), 0b001);
        due.is(19, "far beyond it", x.behind(100, 2), 2);
        due.is(19, "THE MINUTE itself stays", x.count(4), 9999);
    }

    /** A seed with which the one who comes with COME 1 comes first in a minute of this number. */
    private static int seedForComing(int minute) {
        for (int seed = 0; seed < 10000000; seed++) {
            int z = Edge.draw(seed);
            int n = 1;
            while (n < minute && (z >>> 8) % 100 >= 1) {
                z = Edge.drawn(z, 2);
                n++;
            }
            if (n == minute && (z >>> 8) % 100 < 1) {
                return seed;
            }
        }
        return 0;
    }

    private static void fullUp() {
        for (int minute : new int[] {1, 2, 199, 200, 201, 202}) {
            BenchSeats x = by(1, 1, 0);
            x.sitter(SITTER);
            x.seed(seedForComing(minute));
            due.is(20, "behind " + minute + " MINUTES", x.fullUp(), minute <= 200 ? minute : NONE);
            due.is(20, "nothing changes", x.inn(3), 1);
        }
        BenchSeats x = by(1, 0, 0);
        due.is(20, "without SITTERS none MAY", x.fullUp(), 0);
        x.sitter(SITTER);
        due.is(20, "never", x.fullUp(), NONE);
        x.bench(2, 0, 1);
        due.is(20, "shut by its WALLS", x.fullUp(), 0);
        x.sitter(TWIN);
        due.is(20, "but one of those who stand MAY", x.fullUp(), NONE);
        x.turns(1, FAT);
        due.is(20, "a FAT one may not", x.fullUp(), 0);
        x.turns(1, WIDE);
        due.is(20, "a WIDE one may, between WALLS", x.fullUp(), NONE);
        x.bench(9, 0, 0);
        x.rule(2, 100);
        Edge.waitUntil(x, 9999);
        due.is(20, "without the bound of THE MINUTE", x.fullUp(), 2);
        x = new BenchSeats();
        Edge.fullRing(x);
        due.is(20, "all sit", x.fullUp(), 0);
        // Who rises at once may sit down again: with RISE 100 a lone one stands behind each minute.
        x = by(1, 100, 100);
        x.sitter(SITTER);
        due.is(20, "who sits down rises again", x.fullUp(), NONE);
        BenchSeats lived = new BenchSeats();
        Edge.livedIn(lived);
        due.asks(20, "nothing changes in a full inn", y -> { }, BenchSeats::fullUp, lived.fullUp());
    }

    /** Whether anybody may yet sit is asked of each by its own kind. */
    private static void fullUpByKind() {
        int[] besideFriend = {0, 0, NONE, 0, NONE, 0};
        int[] besideSitter = {0, 0, 0, 0, NONE, 0};
        int[] betweenSame = {NONE, 0, NONE, 0, NONE, 0};
        int[] betweenNone = {NONE, NONE, NONE, NONE, NONE, NONE};
        for (int kind = 0; kind < 6; kind++) {
            for (int seated = 0; seated <= 1; seated++) {
                String which = "KIND " + kind + ", number " + (1 - seated);
                due.is(20, which + " beside a FRIEND", fullUpBeside(kind, FRIEND, seated, 2, 0), besideFriend[kind]);
                due.is(20, which + " beside a TWIN", fullUpBeside(kind, TWIN, seated, 2, 0), besideFriend[kind]);
                due.is(20, which + " beside a SITTER", fullUpBeside(kind, SITTER, seated, 2, 0), besideSitter[kind]);
                due.is(20, which + " round a tree", fullUpBeside(kind, SITTER, seated, 2, 1), betweenSame[kind]);
                due.is(20, which + " between none", fullUpBeside(kind, SITTER, seated, 4, 0), betweenNone[kind]);
            }
        }
    }

    /** FULL UP where nobody comes, of one that stands beside one that sits AT 0, whose number is told. */
    private static int fullUpBeside(int kind, int other, int seated, int n, int ring) {
        BenchSeats x = by(1, 0, 0);
        x.bench(n, ring, 0);
        x.sitter(seated == 0 ? other : kind);
        x.sitter(seated == 0 ? kind : other);
        x.sits(seated, 0);
        return x.fullUp();
    }

    private static void roseRefusals() {
        int[][] wrong = {{0, 0}, {61, 0}, {-1, 1}, {LOW, 0}, {HIGH, 0}, {1, -1}, {1, 2}, {60, LOW}, {60, HIGH}, {0, 2},
            {61, -1}};
        for (int[] w : wrong) {
            due.refused(21, "rose " + w[0] + " " + w[1], x -> x.rose(w[0], w[1]), BAD);
            due.refused(21, "rose " + w[0] + " " + w[1] + " ahead of NONE", x -> x.bench(9, 0, 0),
                x -> x.rose(w[0], w[1]), BAD);
        }
        for (int what = 0; what <= 1; what++) {
            int one = what;
            due.refused(21, "nobody sits", x -> x.bench(9, 0, 0), x -> x.rose(1, one), NONE);
            due.is(21, "there is nobody", new BenchSeats().rose(60, what), NONE);
        }
    }

    private static void rose() {
        for (int n : new int[] {1, 2, 59, 60}) {
            BenchSeats x = new BenchSeats();
            Edge.livedIn(x);
            int best = NONE, most = NONE;
            for (int k = 0; k < 7; k++) {
                BenchSeats y = new BenchSeats();
                Edge.livedIn(y);
                if (y.rises(k) >= 0) {
                    y.minutes(n);
                    if (best == NONE || y.inn(1) > most) {
                        best = k;
                        most = y.inn(1);
                    }
                }
            }
            int sitter = best, till = most;
            due.asks(21, "ROSE for " + n, y -> { }, y -> y.rose(n, 0), sitter);
            due.asks(21, "TILL for " + n, y -> { }, y -> y.rose(n, 1), till);
        }
        BenchSeats x = by(1, 0, 0);
        Edge.fullRing(x);
        due.is(21, "of all twelve the least", x.rose(60, 0), 0);
        due.is(21, "TILL is as it was", x.rose(60, 1), 12);
        x.rises(0);
        due.is(21, "of those that sit the least", x.rose(60, 0), 1);
        x = by(1, 100, 0);
        Edge.fullRing(x);
        Edge.waitUntil(x, 9999);
        due.is(21, "without the bound of THE MINUTE", x.rose(1, 1), 13);
        x = by(1, 100, 0);
        Edge.seat(x, SITTER, 0);
        Edge.seat(x, SHY, 2);
        Edge.seat(x, FAT, 5);
        due.is(21, "the last, who pays most", x.rose(1, 0), 2);
        due.is(21, "TILL then", x.rose(1, 1), 8);
        Due.text(x, "fare 0-9");
        due.is(21, "of two that cost as little the least", x.rose(1, 0), 0);
        due.is(21, "TILL below what it was", x.rose(1, 1), -4);
    }

    public static void main(String[] args) {
        minuteRefusals();
        minuteBounds();
        lastMinute();
        come();
        rise();
        whoRises();
        whoComes();
        byLot();
        byLeastAndBySoftest();
        onlyWhereItMay();
        softestAnywhere();
        inn();
        behindRefusals();
        behindBounds();
        fullUp();
        fullUpByKind();
        roseRefusals();
        rose();
        due.end("MinuteEdgesTest", 14, 15, 19, 20, 21);
    }
}
