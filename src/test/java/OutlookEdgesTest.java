import java.util.Arrays;

/** The boundary cases of promises 16 to 18 and 22 to 24: how ordinary ones can go on, fees and fines. */
public final class OutlookEdgesTest {
    private static final int BAD = BenchSeats.BAD, NONE = BenchSeats.NONE, NOTHING = BenchSeats.NOTHING;
    private static final int LOW = Integer.MIN_VALUE, HIGH = Integer.MAX_VALUE;
    private static final int SITTER = 0, WIDE = 1, FRIEND = 2, TWIN = 4, SHY = 5;
    private static final Edge due = new Edge();

    private static void wholeOutlook(String which, BenchSeats x, int... want) {
        for (int what = 0; what <= 2; what++) {
            due.is(16, which + ": goes " + what, x.goes(what), want[what]);
        }
        due.is(17, which + ": GAME", x.game(0), want[3]);
        due.is(17, which + ": WINNING", x.game(1), want[4]);
    }

    private static void refusals() {
        for (int what : new int[] {-1, 3, LOW, HIGH}) {
            due.refused(16, "goes " + what, x -> x.goes(what), BAD);
        }
        for (int what : new int[] {-1, 2, LOW, HIGH}) {
            due.refused(17, "game " + what, x -> x.game(what), BAD);
            due.refused(18, "worthy " + what, x -> x.worthy(what), BAD);
            due.refused(18, "worthy " + what + " ahead of NONE", OutlookEdgesTest::noneFree, x -> x.worthy(what), BAD);
        }
        for (int what = 0; what <= 1; what++) {
            int one = what;
            due.refused(18, "no PLACE is free", OutlookEdgesTest::noneFree, x -> x.worthy(one), NONE);
        }
    }

    /** A bench that one sitter fills. */
    private static void noneFree(BenchSeats x) {
        x.bench(1, 0, 0);
        x.sits(0, 0);
    }

    private static void small() {
        for (int way = 0; way < 4; way++) {
            BenchSeats x = new BenchSeats();
            x.bench(1, way & 1, way >> 1);
            wholeOutlook("one PLACE, way " + way, x, 1, 1, 1, 1, 1);
            Edge.seat(x, SITTER, 0);
            wholeOutlook("one PLACE, taken, way " + way, x, 0, 0, 1, 0, 0);
        }
        BenchSeats x = new BenchSeats();
        x.bench(2, 0, 0);
        wholeOutlook("a ROW of two", x, 1, 1, 2, 1, 3);
        x.bench(2, 0, 1);
        wholeOutlook("a ROW of two between WALLS that are somebody: shut, though free", x, 0, 0, 1, 0, 0);
        x.bench(2, 1, 1);
        wholeOutlook("a RING of two", x, 2, 2, 2, 0, 0);
        x.bench(3, 0, 0);
        // The middle one first shuts it; else both ends and then the middle: 1, or 0 2 1, 2 0 1.
        wholeOutlook("a ROW of three", x, 3, 1, 3, 1, 7);
        x.bench(3, 0, 1);
        // Between WALLS that are somebody only the middle one may begin; then both ends are between two.
        wholeOutlook("a ROW of three between WALLS that are somebody", x, 3, 3, 2, 1, 2);
        x.bench(3, 1, 0);
        wholeOutlook("a RING of three", x, 1, 1, 3, 1, 7);
    }

    /** Where some ways win and others do not, some are longer than others. */
    private static void some() {
        BenchSeats x = new BenchSeats();
        wholeOutlook("a ROW of nine", x, 9, 3, 8878, 1, 0b000111000);
        x.bench(9, 0, 1);
        due.is(16, "MOST between WALLS that are somebody", x.goes(0), 9);
        due.is(16, "FEWEST between WALLS that are somebody", x.goes(1), 5);
        due.is(17, "WINNING between WALLS that are somebody", x.game(1), 0b011111110);
        x.bench(4, 0, 0);
        // It ends as 0 1 2 (0 2 1, 2 0 1), 1 2 3 (1 3 2, 3 1 2) or 0 3 (0 3, 3 0): who begins chooses in vain at the
        // ends, where the other one shuts it at once, and wins in the middle.
        wholeOutlook("a ROW of four", x, 3, 2, 6, 1, 0b0110);
        x.bench(6, 1, 0);
        wholeOutlook("a RING of six", x, 6, 2, 102, 0, 0);
    }

    private static void large() {
        BenchSeats x = new BenchSeats();
        x.bench(12, 0, 0);
        due.is(16, "MOST on a ROW of twelve", x.goes(0), 11);
        due.is(16, "FEWEST on a ROW of twelve", x.goes(1), 4);
        x.bench(12, 1, 0);
        due.is(16, "MOST on a RING of twelve", x.goes(0), 12);
        due.is(16, "FEWEST on a RING of twelve", x.goes(1), 4);
        for (int what = 0; what <= 2; what++) {
            int inRing = x.goes(what);
            x.bench(12, 1, 1);
            due.is(16, "no WALL in a RING", x.goes(what), inRing);
        }
        BenchSeats y = new BenchSeats();
        Edge.fullRing(y);
        wholeOutlook("all twelve taken", y, 0, 0, 1, 0, 0);
        y.rises(11);
        wholeOutlook("one PLACE left, the last", y, 1, 1, 1, 1, 1 << 11);
        y.rises(0);
        wholeOutlook("the last and the first are left: neither is between two", y, 0, 0, 1, 0, 0);
        y.rises(10);
        // 9, 11 and 0 are free: 9 lies between two; 11 and 0 lie between somebody and nobody.
        wholeOutlook("one of three", y, 1, 1, 1, 1, 1 << 9);
    }

    /** Those who come are ordinary ones, whoever stands; those who sit count by the places they take. */
    private static void whoeverStands() {
        for (int kind = 0; kind < 6; kind++) {
            BenchSeats x = new BenchSeats();
            x.bench(3, 0, 0);
            x.sitter(kind);
            wholeOutlook("a ROW of three, KIND " + kind + " stands", x, 3, 1, 3, 1, 7);
        }
        BenchSeats x = new BenchSeats();
        x.bench(4, 1, 0);
        Edge.seat(x, WIDE, 3);
        wholeOutlook("beside a WIDE one over the seam", x, 0, 0, 1, 0, 0);
        x.bench(5, 1, 0);
        x.sits(0, 4);
        wholeOutlook("one PLACE between none, then those beside it", x, 3, 3, 2, 1, 0b00100);
        x.bench(3, 0, 0);
        x.turns(0, FRIEND);
        x.sits(0, 0);
        wholeOutlook("an ordinary one is no FRIEND", x, 2, 2, 1, 0, 0);
        int[] want = {1, 1, 1, 1, 1 << 5};
        for (int what = 0; what <= 4; what++) {
            int one = what;
            due.asks(what < 3 ? 16 : 17, "nothing changes, " + what, y -> y.turns(3, SHY),
                y -> one < 3 ? y.goes(one) : y.game(one - 3), want[what]);
        }
    }

    private static void worthy(String which, BenchSeats x, int place, int most) {
        due.is(18, which + ": the PLACE", x.worthy(0), place);
        due.is(18, which + ": that most", x.worthy(1), most);
    }

    private static void worthy() {
        BenchSeats x = new BenchSeats();
        x.bench(1, 0, 0);
        worthy("one PLACE", x, 0, 51);
        x.rule(0, 0);
        worthy("PRICE 0", x, 0, 50);
        x.rule(0, 99);
        x.cushion(0, 99);
        worthy("PRICE 99 and CUSHION 99", x, 0, 248);
        x.bench(12, 1, 0);
        worthy("of twelve the least", x, 0, 12 * 99 + 50);
        x.rule(0, 0);
        x.bench(2, 0, 0);
        worthy("of two the least", x, 0, 50);
        x.cushion(1, 1);
        worthy("the last, which alone gives more", x, 1, 51);
        x.bench(12, 0, 0);
        x.cushion(11, 1);
        worthy("the least that can be taken with the last", x, 0, 51);
        x.bench(4, 0, 0);
        // It ends as 0 1 2, as 0 3 or as 1 2 3.
        x.cushion(1, 10);
        worthy("the first, though it can be taken with less, too", x, 0, 60);
        x.cushion(3, 10);
        worthy("the least of the way that gives most", x, 1, 70);
        x.cushion(0, 30);
        worthy("both give as much: the least", x, 0, 90);
        x.bench(2, 0, 1);
        worthy("free, but shut", x, 0, 0);
        Edge.seat(x, TWIN, 0);
        // Place 1 is free and between two: the twin and the wall.
        worthy("the first is taken", x, 1, 50);
        x.bench(3, 0, 0);
        x.sits(0, 1);
        worthy("free, but shut by one that sits", x, 0, 0);
        x.bench(5, 0, 0);
        x.sits(0, 1);
        // Between the wall and the one that sits none ever can; 3 and then 2 can be taken, or 4 alone.
        x.cushion(0, 99);
        worthy("a CUSHION where none can sit gives nothing", x, 2, 50);
        x.cushion(1, 99);
        worthy("nor that of a PLACE that is taken", x, 2, 50);
        x.cushion(4, 1);
        worthy("the last, which gives more alone", x, 4, 51);
        x.cushion(3, 1);
        worthy("as much with the other two: the least", x, 2, 51);
        Due.text(x, "fare 500");
        worthy("PRICE and CUSHION, whatever fare gives", x, 2, 51);
        for (int what = 0; what <= 1; what++) {
            int one = what;
            due.asks(18, "nothing changes", y -> { }, y -> y.worthy(one), what == 0 ? 5 : 53);
        }
    }

    private static void bookRefusals() {
        for (int sheet : new int[] {-1, 4, LOW, HIGH}) {
            due.refused(22, "book " + sheet, x -> x.book(sheet), BAD);
        }
        due.refused(22, "a SHEET that is MISSING", x -> x.book(2), NOTHING);
        for (int sheet = 0; sheet < 4; sheet++) {
            due.is(22, "all are MISSING at first", new BenchSeats().book(sheet), NOTHING);
        }
    }

    private static void book(int want, String which, int n, int ring, int wall, int... marks) {
        BenchSeats x = new BenchSeats();
        x.bench(n, ring, wall);
        Edge.row(x, 3, 1, marks);
        due.is(22, which, x.book(3), want);
        due.is(22, which + ": nothing changes", x.inn(0), 0);
        for (int mark : marks) {
            if (mark == NONE) {
                return;
            }
        }
        Edge.row(x, 0, 0, marks);
        due.is(22, which + ", of shorts", x.book(0), want);
    }

    private static void book() {
        due.asks(22, "no places", x -> { }, x -> x.book(3), 0);
        due.asks(22, "NO NUMBER, then 5 between two, then one that cannot", x -> { }, x -> x.book(1), 1);
        book(0, "nothing but NO NUMBERS", 9, 0, 0, NONE, NONE);
        book(2, "NO NUMBERS between and behind", 9, 0, 0, NONE, 0, NONE, 2, NONE);
        book(0, "below the first PLACE", 9, 0, 0, -1, 4);
        book(0, "behind the last PLACE", 9, 0, 0, 9, 4);
        book(0, "far behind: no bit of another one", 9, 0, 0, 32, 4);
        book(0, "far below: no bit of another one", 9, 0, 0, -32, 4);
        book(0, "far off", 9, 0, 0, 32767, 4);
        book(1, "the last PLACE of a ROW", 9, 0, 0, 8, 9);
        book(2, "the first and the last of a ROW of three", 3, 0, 0, 0, 2, 3);
        book(3, "and the one between them", 3, 0, 0, 0, 2, 1);
        book(1, "twice the same", 9, 0, 0, 4, 4, 6);
        book(1, "what comes behind the first that cannot is not told", 9, 0, 0, 4, 5, 6, 8);
        book(1, "over the seam: one beside the other", 5, 1, 0, 4, 0);
        book(2, "a RING of two: between the same one", 2, 1, 0, 1, 0);
        book(1, "a RING of one", 1, 1, 1, 0);
        book(0, "beside a WALL that is somebody", 3, 0, 1, 0);
        book(3, "between somebody and such a WALL", 3, 0, 1, 1, 2, 0);
        int[] all = {0, 2, 4, 6, 8, 10, 1, 3, 5, 7, 9, 11, 0, 0, 0, 0, 0, 0, 0, 0, 0, 0, 0, 0};
        book(12, "all of twelve, then none", 12, 1, 0, all);
        int[] last = new int[24];
        Arrays.fill(last, NONE);
        last[23] = 11;
        book(1, "the last of 24 places", 12, 1, 0, last);
        BenchSeats x = new BenchSeats();
        Edge.seat(x, FRIEND, 0);
        Edge.row(x, 0, 0, 1);
        due.is(22, "ordinary ones are no FRIENDS", x.book(0), 0);
        Edge.row(x, 0, 0, 0);
        due.is(22, "a PLACE that is taken", x.book(0), 0);
        Edge.row(x, 0, 0, 2, 1);
        due.is(22, "on the bench as it is now", x.book(0), 2);
    }

    private static void fee() {
        BenchSeats x = new BenchSeats();
        due.is(23, "without a TEXT: TILL, 0", x.fee(), 0);
        Due.text(x, "fare 0-999");
        Due.text(x, "fine 7");
        Edge.seat(x, SITTER, 0);
        due.is(23, "without a TEXT of fee: TILL below 0", x.fee(), -999);
        Due.text(x, "fee t");
        due.is(23, "t", x.fee(), -999);
        Due.text(x, "fee m");
        due.is(23, "m, 0", x.fee(), 0);
        Edge.waitUntil(x, 9999);
        due.is(23, "m, the last", x.fee(), 9999);
        Due.text(x, "fee 9999*9999*9999");
        due.is(23, "it wraps and is not held", x.fee(), 9999 * 9999 * 9999);
        Due.text(x, "fee 9999/m*0-1000");
        due.is(23, "nor is it below", x.fee(), -1000);
        Due.text(x, "fee 5/(m-m)");
        due.is(23, "/ is 0 by 0", x.fee(), 0);
        BenchSeats lived = new BenchSeats();
        Edge.livedIn(lived);
        due.asks(23, "nothing changes", y -> { }, BenchSeats::fee, lived.inn(1) * 10 + 3);
    }

    private static void fine() {
        for (int sitter : new int[] {-1, 7, LOW, HIGH}) {
            due.refused(24, "fine " + sitter, x -> x.fine(sitter), BAD);
        }
        due.is(24, "without SITTERS", new BenchSeats().fine(0), BAD);
        BenchSeats x = new BenchSeats();
        Edge.fillUp(x);
        x.sits(11, 0);
        Due.text(x, "fee 7");
        Due.text(x, "fare 3");
        due.is(24, "without a TEXT of fine: SAT", x.fine(11), 1);
        due.is(24, "SAT of the first", x.fine(0), 0);
        due.is(24, "behind the last", x.fine(12), BAD);
        Due.text(x, "fine p");
        due.is(24, "p", x.fine(11), -1);
        Due.text(x, "fine s");
        due.is(24, "s", x.fine(11), 1);
        Due.text(x, "fine p*9999*9999*9999-s");
        due.is(24, "it wraps and is not held", x.fine(11), -9999 * 9999 * 9999 - 1);
        BenchSeats lived = new BenchSeats();
        Edge.livedIn(lived);
        due.asks(24, "nothing changes", y -> { }, y -> y.fine(5), lived.told(5, 2) - lived.told(5, 3));
    }

    public static void main(String[] args) {
        refusals();
        small();
        some();
        large();
        whoeverStands();
        worthy();
        bookRefusals();
        book();
        fee();
        fine();
        due.end("OutlookEdgesTest", 16, 17, 18, 22, 23, 24);
    }
}
