/** The boundary cases of promises 30 to 38: sheets, slots. */
public final class SheetEdgesTest {
    private static final int BAD = BenchSeats.BAD, NO = BenchSeats.NO, NONE = BenchSeats.NONE,
        NOTHING = BenchSeats.NOTHING, KIND = BenchSeats.KIND, INDEX = BenchSeats.INDEX, SIZE = BenchSeats.SIZE;
    private static final int LOW = Integer.MIN_VALUE, HIGH = Integer.MAX_VALUE;
    private static final int SHORTS = 0, FLOATS = 1, MISSING = 2, EMPTY = 3;
    private static final int SITTER = 0, WIDE = 1, FRIEND = 2, FAT = 3, TWIN = 4, SHY = 5;
    private static final Edge due = new Edge();

    /** A place of a sheet, seen through the last slot. */
    private static int seen(BenchSeats x, int sheet, int place) {
        x.lay(4, 2, sheet);
        return x.item(4, place);
    }

    private static void sheetRefusals() {
        int[][] bad = {{-1, 0, 1}, {4, 0, 1}, {LOW, 0, 1}, {HIGH, 0, 1}, {0, -2, 1}, {0, 2, 1}, {0, LOW, 1},
            {0, HIGH, 1}, {0, 0, 25}, {0, 1, 25}, {0, 0, HIGH}, {4, 2, 25}, {4, -1, 0}, {-1, 0, -1}, {0, 2, -1},
            {0, -2, -1}, {4, 2, -1}};
        for (int[] b : bad) {
            due.refused(30, "sheet " + b[0] + " " + b[1] + " " + b[2], x -> x.sheet(b[0], b[1], b[2]), BAD);
        }
        for (int sheet = 0; sheet < 4; sheet++) {
            for (int sort = 0; sort <= 1; sort++) {
                int one = sheet, way = sort;
                due.refused(30, "-1 places", x -> x.sheet(one, way, -1), SIZE);
                due.refused(30, "far fewer than no places", x -> x.sheet(one, way, LOW), SIZE);
                due.refused(30, "25 places", x -> x.sheet(one, way, 25), BAD);
            }
        }
    }

    private static void sheetBounds() {
        for (int sheet = 0; sheet < 4; sheet++) {
            for (int sort = 0; sort <= 1; sort++) {
                for (int n : new int[] {0, 1, 23, 24}) {
                    BenchSeats x = new BenchSeats();
                    Edge.livedIn(x);
                    due.is(30, "n", x.sheet(sheet, sort, n), n);
                    for (int place = 0; place < n; place++) {
                        due.is(30, "all 0", seen(x, sheet, place), 0);
                    }
                    due.is(30, "no place behind them", seen(x, sheet, n), INDEX);
                    due.is(30, "of its sort", x.copy(sheet, 0, SHORTS, 0, 0), sort == 0 || sheet == SHORTS ? 0 : KIND);
                }
            }
            for (int n : new int[] {0, 24, 25, -1, LOW, HIGH}) {
                BenchSeats x = new BenchSeats();
                Edge.livedIn(x);
                due.is(30, "MISSING, n " + n, x.sheet(sheet, -1, n), 0);
                due.is(30, "it is MISSING", x.reads(sheet), NOTHING);
            }
        }
        BenchSeats x = new BenchSeats();
        Edge.row(x, 2, 0, 5, 6, 7);
        x.sheet(2, 0, 1);
        due.is(30, "fewer places, all 0", seen(x, 2, 0), 0);
        due.is(30, "the others are gone", seen(x, 2, 1), INDEX);
        x.sheet(2, 0, 3);
        due.is(30, "more places, all 0", seen(x, 2, 2), 0);
        Edge.row(x, 2, 1, NONE);
        x.sheet(2, 1, 1);
        due.is(30, "NO NUMBER is gone, too", seen(x, 2, 0), 0);
        for (int way = 0; way < 4; way++) {
            x = new BenchSeats();
            x.sheet(1, way & 1, 24);
            for (int place = 0; place < 24; place++) {
                x.mark(1, place, place + 7);
            }
            due.is(30, "all 24 anew", x.sheet(1, way >> 1, 24), 24);
            for (int place = 0; place < 24; place++) {
                due.is(30, "all 24 are 0", seen(x, 1, place), 0);
            }
        }
    }

    private static void markRefusals() {
        for (int sheet : new int[] {-1, 4, LOW, HIGH}) {
            due.refused(31, "mark of " + sheet, x -> x.mark(sheet, 0, 0), BAD);
            due.refused(31, "BAD ahead of all", x -> x.mark(sheet, -1, NONE), BAD);
        }
        due.refused(31, "MISSING", x -> x.mark(MISSING, 0, 0), NOTHING);
        due.refused(31, "MISSING ahead of INDEX", x -> x.mark(MISSING, -1, 0), NOTHING);
        due.refused(31, "MISSING ahead of KIND", x -> x.mark(MISSING, 0, NONE), NOTHING);
        due.refused(31, "MISSING ahead of BAD", x -> x.mark(MISSING, 24, 100000), NOTHING);
        for (int place : new int[] {-1, 4, LOW, HIGH}) {
            due.refused(31, "shorts, place " + place, x -> x.mark(SHORTS, place, 0), INDEX);
            due.refused(31, "INDEX ahead of KIND", x -> x.mark(SHORTS, place, NONE), INDEX);
        }
        for (int place : new int[] {-1, 5, LOW, HIGH}) {
            due.refused(31, "floats, place " + place, x -> x.mark(FLOATS, place, 0), INDEX);
            due.refused(31, "INDEX ahead of BAD", x -> x.mark(FLOATS, place, 100000), INDEX);
        }
        due.refused(31, "no places", x -> x.mark(EMPTY, 0, 0), INDEX);
        for (int place : new int[] {0, 3}) {
            due.refused(31, "NONE in a row of shorts", x -> x.mark(SHORTS, place, NONE), KIND);
        }
        for (int v : new int[] {100000, -100000, LOW, HIGH, BAD, NONE + 1, NONE - 1}) {
            due.refused(31, "v of floats " + v, x -> x.mark(FLOATS, 4, v), BAD);
        }
    }

    private static void markBounds() {
        int[] given = {32767, 32768, -32768, -32769, 65535, 65536, 65537, 0, -1, LOW, HIGH, 100000, NONE + 1, NONE - 1};
        for (int place : new int[] {0, 23}) {
            for (int v : given) {
                BenchSeats x = new BenchSeats();
                x.sheet(0, 0, 24);
                due.is(31, "shorts take any v", x.mark(0, place, v), 1);
                due.is(31, "its lowest 16 bits", seen(x, 0, place), (v & 65535) - ((v & 32768) << 1));
                due.is(31, "no other place", seen(x, 0, 23 - place), 0);
            }
            for (int v : new int[] {99999, -99999, 0, 32768, -32769, 65536}) {
                BenchSeats x = new BenchSeats();
                x.sheet(3, 1, 24);
                due.is(31, "floats take v", x.mark(3, place, v), 1);
                due.is(31, "as it is", seen(x, 3, place), v);
                due.is(31, "NO NUMBER", x.mark(3, place, NONE), 1);
                due.is(31, "NO NUMBER is there", seen(x, 3, place), KIND);
                due.is(31, "no other place", seen(x, 3, 23 - place), 0);
                x.mark(3, place, v);
                due.is(31, "a number again", seen(x, 3, place), v);
            }
        }
    }

    private static void pour() {
        for (int sheet : new int[] {-1, 4, LOW, HIGH}) {
            due.refused(32, "pour " + sheet, x -> x.pour(sheet), BAD);
        }
        due.refused(32, "MISSING", x -> x.pour(MISSING), NOTHING);
        due.asks(32, "no places", x -> { }, x -> x.pour(EMPTY), 0);
        int[] given = {-99999, -1, 0, 1, 98, 99, 100, 99999};
        int[] held = {0, 0, 0, 1, 98, 99, 99, 99};
        for (int was : new int[] {0, 50, 99}) {
            for (int i = 0; i < given.length; i++) {
                BenchSeats x = new BenchSeats();
                x.cushion(0, was);
                Edge.row(x, 0, 1, given[i]);
                due.is(32, given[i] + " for " + was + ": otherwise", x.pour(0), held[i] == was ? 0 : 1);
                due.is(32, given[i] + " is held", x.cushion(0, 0), held[i]);
            }
        }
        BenchSeats x = new BenchSeats();
        Edge.row(x, 0, 0, 32768, 32767);
        due.is(32, "shorts", x.pour(0), 1);
        due.is(32, "below 0 by its lowest 16 bits", x.cushion(0, 0), 0);
        due.is(32, "the greatest short is held", x.cushion(1, 0), 99);
    }

    private static void pourBeyond() {
        for (int n : new int[] {1, 9, 12}) {
            for (int places : new int[] {1, 11, 12, 13, 24}) {
                BenchSeats x = new BenchSeats();
                x.bench(n, 0, 0);
                for (int p = 0; p < n; p++) {
                    x.cushion(p, 70);
                }
                x.sheet(0, 1, places);
                for (int p = 0; p < places; p++) {
                    x.mark(0, p, p + 1);
                }
                due.is(32, "as many as both have", x.pour(0), Math.min(n, places));
                for (int p = 0; p < n; p++) {
                    due.is(32, "beyond the SHEET they stay", x.cushion(p, 70), p < places ? p + 1 : 70);
                }
            }
        }
        BenchSeats x = new BenchSeats();
        x.cushion(0, 8);
        x.cushion(8, 9);
        Edge.row(x, 0, 1, NONE, NONE, 3, NONE, NONE, NONE, NONE, NONE, NONE);
        due.is(32, "NO NUMBER: they stay", x.pour(0), 1);
        due.is(32, "the first stays", x.cushion(0, 0), 8);
        due.is(32, "the third does not", x.cushion(2, 0), 3);
        due.is(32, "the last stays", x.cushion(8, 0), 9);
    }

    private static void reads() {
        for (int sheet : new int[] {-1, 4, LOW, HIGH}) {
            due.refused(33, "reads " + sheet, x -> x.reads(sheet), BAD);
        }
        due.refused(33, "MISSING", x -> x.reads(MISSING), NOTHING);
        due.refused(33, "no places", x -> x.reads(EMPTY), NONE);
        due.refused(33, "NO NUMBERS alone", x -> Edge.row(x, 0, 1, NONE, NONE), x -> x.reads(0), NONE);
        BenchSeats x = new BenchSeats();
        x.sheet(0, 0, 24);
        due.is(33, "without SITTERS the first", x.reads(0), 0);
        Edge.row(x, 1, 1, NONE, NONE, 0);
        due.is(33, "the first of numbers alone", x.reads(1), 2);
        Edge.fillUp(x);
        due.is(33, "no SITTER is the thirteenth", x.reads(0), 12);
        x.sheet(0, 0, 12);
        due.is(33, "all twelve", x.reads(0), NONE);
        x.mark(0, 11, 1);
        due.is(33, "the last of twelve", x.reads(0), 11);
        x.mark(0, 0, -1);
        due.is(33, "the first of two", x.reads(0), 0);
        x.sheet(0, 0, 1);
        due.is(33, "fewer places than SITTERS", x.reads(0), NONE);
        x.sheet(0, 1, 24);
        for (int i = 12; i < 24; i++) {
            x.mark(0, i, NONE);
        }
        due.is(33, "NO NUMBERS behind the last SITTER", x.reads(0), NONE);
        x.mark(0, 23, 0);
        due.is(33, "the last place", x.reads(0), 23);
    }

    private static void readsPennies() {
        for (int sign : new int[] {1, -1}) {
            BenchSeats x = new BenchSeats();
            x.sitter(FAT);
            Due.text(x, sign > 0 ? "fare 0-999" : "fare 999");
            for (int i = 0; i < 7; i++) {
                x.sits(0, 0);
                x.rises(0);
            }
            for (int sort = 0; sort <= 1; sort++) {
                Edge.row(x, 0, sort, sign * 9999);
                due.is(33, "PENNIES as they are held", x.reads(0), NONE);
                Edge.row(x, 0, sort, sign * 9998);
                due.is(33, "one fewer", x.reads(0), 0);
                Edge.row(x, 0, sort, sign * 10000);
                due.is(33, "one more", x.reads(0), 0);
            }
            Edge.row(x, 0, 0, sign * 9999 + 65536);
            due.is(33, "a short that wraps round to them", x.reads(0), NONE);
        }
    }

    private static void copyRefusals() {
        int[][] bad = {{-1, 0, 0, 0, 1}, {4, 0, 0, 0, 1}, {LOW, 0, 0, 0, 1}, {HIGH, 0, 0, 0, 1}, {0, 0, -1, 0, 1},
            {0, 0, 4, 0, 1}, {0, 0, LOW, 0, 1}, {0, 0, HIGH, 0, 1}, {4, 0, MISSING, 0, 1}, {MISSING, 0, 4, 0, 1},
            {-1, -1, -1, -1, -1}, {4, 9, FLOATS, 9, 9}, {FLOATS, 9, 4, 9, 9}};
        for (int[] b : bad) {
            due.refused(34, "copy from " + b[0] + " to " + b[2], x -> x.copy(b[0], b[1], b[2], b[3], b[4]), BAD);
        }
        int[][] nothing = {{MISSING, 0, 0, 0, 1}, {0, 0, MISSING, 0, 1}, {MISSING, 0, MISSING, 0, 0},
            {MISSING, 9, 0, 0, 1}, {1, 0, MISSING, -1, 1}, {MISSING, 0, 1, 0, 99}, {0, 0, MISSING, 0, -1}};
        for (int[] n : nothing) {
            due.refused(34, "copy from " + n[0] + " to " + n[2], x -> x.copy(n[0], n[1], n[2], n[3], n[4]), NOTHING);
        }
        int[][] kind = {{0, 0, 1, 0, 1}, {1, 0, 0, 0, 1}, {0, 0, 1, 0, 0}, {0, -1, 1, 0, 1}, {0, 0, 1, 9, 1},
            {1, 0, 0, 0, 99}, {1, 0, 0, 0, -1}, {1, 0, EMPTY, 0, 0}};
        for (int[] k : kind) {
            due.refused(34, "copy from " + k[0] + " to " + k[2], x -> x.copy(k[0], k[1], k[2], k[3], k[4]), KIND);
        }
        int[][] index = {{0, -1, 0, 0, 1}, {0, 4, 0, 0, 1}, {0, 0, 0, -1, 1}, {0, 0, 0, 4, 1}, {0, 0, 0, 0, 5},
            {0, 1, 0, 0, 4}, {0, 0, 0, 1, 4}, {0, 0, 0, 0, -1}, {0, 5, 0, 0, 0}, {0, 0, 0, 5, 0}, {0, -1, 0, 0, 0},
            {0, 0, 0, -1, 0}, {0, LOW, 0, 0, 1}, {0, 0, 0, LOW, 1}, {0, 0, 0, 0, LOW}, {0, HIGH, 0, 0, 1},
            {0, 0, 0, HIGH, 1}, {0, 0, 0, 0, HIGH}, {0, HIGH, 0, HIGH, HIGH}, {0, 4, 0, 4, -1}, {0, 2, 0, 2, HIGH},
            {EMPTY, 0, EMPTY, 0, 1}, {EMPTY, 0, 0, 0, 1}, {0, 0, EMPTY, 0, 1}, {1, 4, 1, 0, 2}, {1, 0, 1, 4, 2}};
        for (int[] i : index) {
            due.refused(34, "copy " + i[0] + " " + i[1] + " " + i[2] + " " + i[3] + " " + i[4],
                x -> x.copy(i[0], i[1], i[2], i[3], i[4]), INDEX);
        }
        int[][] none = {{0, 0, 0, 0, 0}, {0, 4, 0, 4, 0}, {EMPTY, 0, EMPTY, 0, 0}, {0, 4, EMPTY, 0, 0},
            {EMPTY, 0, 0, 4, 0}, {0, 0, 0, 0, 4}, {1, 5, 1, 5, 0}, {1, 4, 1, 4, 1}};
        for (int[] n : none) {
            due.asks(34, "none, or to where they are", x -> { }, x -> x.copy(n[0], n[1], n[2], n[3], n[4]), n[4]);
        }
    }

    private static void copied(String which, BenchSeats x, int sheet, int... want) {
        for (int i = 0; i < want.length; i++) {
            due.is(34, which + ": place " + i, seen(x, sheet, i), want[i]);
        }
        due.is(34, which + ": no more places", seen(x, sheet, want.length), INDEX);
    }

    private static void copies() {
        BenchSeats x = new BenchSeats();
        Edge.row(x, 0, 0, 1, 2, 3, 4, 5);
        due.is(34, "up over itself", x.copy(0, 0, 0, 1, 4), 4);
        copied("as they were", x, 0, 1, 1, 2, 3, 4);
        due.is(34, "down over itself", x.copy(0, 1, 0, 0, 4), 4);
        copied("as they were, too", x, 0, 1, 2, 3, 4, 4);
        Edge.row(x, 1, 0, 7, 8, 9);
        due.is(34, "to the last place", x.copy(1, 0, 0, 2, 3), 3);
        copied("to another one", x, 0, 1, 2, 7, 8, 9);
        copied("from it", x, 1, 7, 8, 9);
        due.is(34, "from the last place", x.copy(1, 2, 0, 0, 1), 1);
        copied("one", x, 0, 9, 2, 7, 8, 9);
        Edge.row(x, 2, 1, NONE, 99999);
        Edge.row(x, 3, 1, 5, NONE, 6);
        due.is(34, "floats", x.copy(2, 0, 3, 1, 2), 2);
        copied("NO NUMBER comes along", x, 3, 5, KIND, 99999);
        x.sheet(0, 0, 24);
        x.sheet(1, 0, 24);
        x.mark(0, 23, 23);
        due.is(34, "all of 24", x.copy(0, 0, 1, 0, 24), 24);
        due.is(34, "the last of them", seen(x, 1, 23), 23);
        x.mark(0, 23, 24);
        due.is(34, "it is a copy", seen(x, 1, 23), 23);
    }

    private static void layRefusals() {
        int[][] bad = {{-1, 3, 0}, {5, 3, 0}, {LOW, 0, 0}, {HIGH, 0, 0}, {1, -1, 0}, {1, 4, 0}, {1, LOW, 0},
            {1, HIGH, 0}, {1, 1, -1}, {1, 1, 7}, {1, 1, LOW}, {1, 1, HIGH}, {1, 2, -1}, {1, 2, 4}, {1, 2, LOW},
            {1, 2, HIGH}, {5, 4, 7}, {5, 1, 7}, {1, 4, 4}, {5, 2, MISSING}, {-1, 2, MISSING}};
        for (int[] b : bad) {
            due.refused(35, "lay " + b[0] + " " + b[1] + " " + b[2], x -> x.lay(b[0], b[1], b[2]), BAD);
        }
        for (int slot = 0; slot < 5; slot++) {
            int one = slot;
            due.refused(35, "that SHEET is MISSING", x -> x.lay(one, 2, MISSING), NOTHING);
        }
        due.is(35, "without SITTERS", new BenchSeats().lay(0, 1, 0), BAD);
    }

    private static void layBounds() {
        int[] held = {0, 1, 2, 3, 2};
        for (int slot = 0; slot < 5; slot++) {
            for (int k : new int[] {LOW, -1, 0, HIGH}) {
                BenchSeats x = new BenchSeats();
                Edge.livedIn(x);
                due.is(35, "nothing, k any: what it held", x.lay(slot, 0, k), held[slot]);
                due.is(35, "it holds nothing", x.rest(slot, 1), NOTHING);
                due.is(35, "any number: it held nothing", x.lay(slot, 3, k), 0);
                due.is(35, "the number", x.rest(slot, LOW), k == LOW ? 0 : k);
                due.is(35, "it held a number", x.lay(slot, 1, 6), 3);
                due.is(35, "the last SITTER", x.ask(slot, 4), 95);
                due.is(35, "it held a SITTER", x.lay(slot, 2, EMPTY), 1);
                due.is(35, "a SHEET of no places", x.item(slot, 0), INDEX);
                due.is(35, "it held a SHEET", x.lay(slot, 2, 0), 2);
                due.is(35, "the first SHEET", x.item(slot, 0), 9);
                due.is(35, "the first SITTER", x.lay(slot, 1, 0), 2);
                due.is(35, "it holds that", x.ask(slot, 0), 2);
            }
        }
        BenchSeats x = new BenchSeats();
        Edge.fillUp(x);
        due.is(35, "the last of twelve", x.lay(0, 1, 11), 0);
        due.is(35, "none behind it", x.lay(0, 1, 12), BAD);
        x.sheet(3, 1, 24);
        x.mark(3, 23, 7);
        due.is(35, "a SHEET of 24 places", x.lay(4, 2, 3), 0);
        x.mark(3, 23, 8);
        due.is(35, "a row of its own", x.item(4, 23), 7);
        x.sheet(3, 0, 0);
        due.is(35, "though the SHEET is another one", x.item(4, 23), 7);
        x.sheet(3, -1, 0);
        due.is(35, "though it is MISSING", x.item(4, 23), 7);
    }

    private static void ask() {
        int[][] bad = {{-1, 0}, {5, 0}, {LOW, 0}, {HIGH, 0}, {1, -1}, {1, 6}, {1, LOW}, {1, HIGH}, {5, 6}, {0, 6},
            {0, -1}, {2, 6}, {3, -1}};
        for (int[] b : bad) {
            due.refused(36, "ask " + b[0] + " " + b[1], x -> x.ask(b[0], b[1]), BAD);
        }
        for (int kind = 0; kind < 6; kind++) {
            int one = kind;
            due.refused(36, "nothing there", x -> x.ask(0, one), NOTHING);
            due.refused(36, "floats are no SITTER", x -> x.ask(2, one), KIND);
            due.refused(36, "a number is no SITTER", x -> x.ask(3, one), KIND);
            due.refused(36, "shorts are no SITTER", x -> x.ask(4, one), KIND);
            due.asks(36, "a FAT one as KIND " + kind, x -> { }, x -> x.ask(1, one),
                kind == SITTER || kind == WIDE || kind == FAT ? 12 : KIND);
        }
        int[] ofKind = {0b111111, 0b001010, 0b010100, 0b001000, 0b010000, 0b100000};
        int[] worth = {1, 7, 98, 14, 94, 3};
        for (int kind : new int[] {SITTER, WIDE, FRIEND, FAT, TWIN, SHY}) {
            for (int wanted = 0; wanted < 6; wanted++) {
                BenchSeats x = new BenchSeats();
                Edge.seat(x, kind, 0);
                x.lay(4, 1, 0);
                x.rises(0);
                x.sits(0, 3);
                x.rises(0);
                x.turns(0, (kind + 1) % 6);
                due.is(36, "KIND " + kind + " taken for " + wanted + ", as it was then", x.ask(4, wanted),
                    (ofKind[wanted] >> kind & 1) == 1 ? worth[kind] : KIND);
            }
        }
        due.is(36, "for good, though there is no such SITTER now", askedBehindBack(), 99);
    }

    private static int askedBehindBack() {
        BenchSeats x = new BenchSeats();
        x.keep();
        x.sitter(FRIEND);
        x.lay(0, 1, 0);
        x.back();
        return x.ask(0, FRIEND);
    }

    private static void item() {
        for (int slot : new int[] {-1, 5, LOW, HIGH}) {
            due.refused(37, "item of " + slot, x -> x.item(slot, 0), BAD);
            due.refused(37, "BAD ahead of INDEX", x -> x.item(slot, -1), BAD);
        }
        for (int place : new int[] {-1, 0, 24}) {
            due.refused(37, "nothing there", x -> x.item(0, place), NOTHING);
            due.refused(37, "a SITTER is no SHEET, ahead of INDEX", x -> x.item(1, place), KIND);
            due.refused(37, "a number is no SHEET, ahead of INDEX", x -> x.item(3, place), KIND);
        }
        for (int place : new int[] {-1, 5, LOW, HIGH, 24}) {
            due.refused(37, "no place " + place + " of floats", x -> x.item(2, place), INDEX);
        }
        for (int place : new int[] {-1, 4, LOW, HIGH, 24}) {
            due.refused(37, "no place " + place + " of shorts", x -> x.item(4, place), INDEX);
        }
        due.refused(37, "no places", x -> x.lay(0, 2, EMPTY), x -> x.item(0, 0), INDEX);
        due.refused(37, "NO NUMBER", x -> x.item(2, 0), KIND);
        due.asks(37, "behind NO NUMBER, as it was then", x -> { }, x -> x.item(2, 1), 0);
        due.asks(37, "the last of floats", x -> { }, x -> x.item(2, 4), -99999);
        due.asks(37, "the first of shorts, as it was then", x -> { }, x -> x.item(4, 0), 1);
        due.asks(37, "the last of shorts", x -> { }, x -> x.item(4, 3), 7);
    }

    private static void rest() {
        for (int slot : new int[] {-1, 5, LOW, HIGH}) {
            due.refused(38, "rest of " + slot, x -> x.rest(slot, 1), BAD);
            due.refused(38, "BAD ahead of NO", x -> x.rest(slot, 0), BAD);
        }
        for (int n : new int[] {0, 1, -1, LOW, HIGH}) {
            due.refused(38, "nothing there", x -> x.rest(0, n), NOTHING);
            due.refused(38, "a SITTER is no number", x -> x.rest(1, n), KIND);
            due.refused(38, "floats are no number", x -> x.rest(2, n), KIND);
            due.refused(38, "shorts are no number", x -> x.rest(4, n), KIND);
        }
        due.refused(38, "by 0", x -> x.rest(3, 0), NO);
        due.refused(38, "0 by 0", x -> x.lay(3, 3, 0), x -> x.rest(3, 0), NO);
        int[][] rows = {{-11, 4, -3}, {-11, -4, -3}, {11, -4, 3}, {11, 4, 3}, {11, 11, 0}, {11, 12, 11}, {11, 1, 0},
            {11, -1, 0}, {0, 5, 0}, {LOW, -1, 0}, {LOW, 1, 0}, {LOW, LOW, 0}, {LOW, HIGH, -1}, {HIGH, LOW, HIGH},
            {HIGH, HIGH, 0}, {HIGH, -1, 0}, {-1, LOW, -1}};
        for (int[] r : rows) {
            due.asks(38, r[0] + " by " + r[1], x -> x.lay(3, 3, r[0]), x -> x.rest(3, r[1]), r[2]);
        }
    }

    public static void main(String[] args) {
        sheetRefusals();
        sheetBounds();
        markRefusals();
        markBounds();
        pour();
        pourBeyond();
        reads();
        readsPennies();
        copyRefusals();
        copies();
        layRefusals();
        layBounds();
        ask();
        item();
        rest();
        due.end("SheetEdgesTest", 30, 31, 32, 33, 34, 35, 36, 37, 38);
    }
}
