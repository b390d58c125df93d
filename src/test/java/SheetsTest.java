/** Promises 30 to 38: sheets, slots. */
public final class SheetsTest {
    private static final int BAD = BenchSeats.BAD, NO = BenchSeats.NO, NONE = BenchSeats.NONE,
        NOTHING = BenchSeats.NOTHING, KIND = BenchSeats.KIND, INDEX = BenchSeats.INDEX, SIZE = BenchSeats.SIZE;
    private static final Due due = new Due();

    /** A place of a sheet, seen through the last slot. */
    private static int seen(BenchSeats x, int sheet, int place) {
        x.lay(4, 2, sheet);
        return x.item(4, place);
    }

    private static void sheet() {
        BenchSeats x = new BenchSeats();
        due.is("sheet 4", x.sheet(4, 0, 1), BAD);
        due.is("sheet -1", x.sheet(-1, 0, 1), BAD);
        due.is("sheet 4 ahead of SIZE", x.sheet(4, 0, -1), BAD);
        due.is("sort 2", x.sheet(0, 2, 1), BAD);
        due.is("sort -2", x.sheet(0, -2, 1), BAD);
        due.is("sort 2 ahead of SIZE", x.sheet(0, 2, -1), BAD);
        due.is("25 places", x.sheet(0, 0, 25), BAD);
        due.is("-1 places", x.sheet(0, 0, -1), SIZE);
        due.is("far below 0", x.sheet(0, 1, Integer.MIN_VALUE), SIZE);
        due.is("still MISSING", x.mark(0, 0, 0), NOTHING);
        due.is("24 places", x.sheet(0, 0, 24), 24);
        due.is("the last place", x.mark(0, 23, 5), 1);
        due.is("a refused one keeps it", x.sheet(0, 0, 25), BAD);
        due.is("kept", seen(x, 0, 23), 5);
        due.is("made anew", x.sheet(0, 1, 24), 24);
        due.is("all are 0", seen(x, 0, 23), 0);
        due.is("no places", x.sheet(0, 0, 0), 0);
        due.is("no place 0", x.mark(0, 0, 0), INDEX);
        due.is("MISSING, n any", x.sheet(0, -1, 25), 0);
        due.is("MISSING, n below 0", x.sheet(1, -1, -7), 0);
        due.is("MISSING now", x.mark(0, 0, 0), NOTHING);
    }

    private static void mark() {
        BenchSeats x = new BenchSeats();
        x.sheet(0, 0, 3);
        x.sheet(1, 1, 3);
        due.is("mark of sheet 4", x.mark(4, 0, 0), BAD);
        due.is("mark of sheet -1", x.mark(-1, 0, 0), BAD);
        due.is("mark of MISSING", x.mark(2, 9, NONE), NOTHING);
        due.is("place 3", x.mark(0, 3, NONE), INDEX);
        due.is("place -1", x.mark(1, -1, 100000), INDEX);
        due.is("NONE in shorts", x.mark(0, 0, NONE), KIND);
        due.is("shorts wrap", x.mark(0, 0, 65536 + 40000), 1);
        due.is("lowest 16 bits", seen(x, 0, 0), 40000 - 65536);
        due.is("32768", x.mark(0, 1, 32768), 1);
        due.is("lowest 16 bits below 0", seen(x, 0, 1), -32768);
        due.is("-32769", x.mark(0, 2, -32769), 1);
        due.is("lowest 16 bits above 0", seen(x, 0, 2), 32767);
        due.is("float 99999", x.mark(1, 0, 99999), 1);
        due.is("float told", seen(x, 1, 0), 99999);
        due.is("float -99999", x.mark(1, 0, -99999), 1);
        due.is("float told below 0", seen(x, 1, 0), -99999);
        due.is("float 100000", x.mark(1, 0, 100000), BAD);
        due.is("float -100000", x.mark(1, 0, -100000), BAD);
        due.is("it stays", seen(x, 1, 0), -99999);
        due.is("NO NUMBER", x.mark(1, 0, NONE), 1);
        due.is("NO NUMBER told", seen(x, 1, 0), KIND);
    }

    private static void pour() {
        BenchSeats x = new BenchSeats();
        due.is("pour 4", x.pour(4), BAD);
        due.is("pour -1", x.pour(-1), BAD);
        due.is("pour MISSING", x.pour(0), NOTHING);
        x.bench(3, 0, 0);
        x.cushion(0, 11);
        x.cushion(2, 13);
        x.sheet(0, 1, 24);
        x.mark(0, 0, NONE);
        x.mark(0, 1, 500);
        x.mark(0, 2, 13);
        x.mark(0, 3, 44);
        due.is("pour: one is otherwise", x.pour(0), 1);
        due.is("pour again", x.pour(0), 0);
        due.is("NO NUMBER stays", x.cushion(0, 11), 11);
        due.is("held within 99", x.cushion(1, 0), 99);
        due.is("as it was", x.cushion(2, 13), 13);
        x.sheet(1, 0, 1);
        x.mark(1, 0, -5);
        due.is("pour a short one", x.pour(1), 1);
        due.is("held within 0", x.cushion(0, 0), 0);
        due.is("beyond the SHEET it stays", x.cushion(2, 0), 13);
        x.sheet(1, 0, 0);
        due.is("pour none", x.pour(1), 0);
    }

    private static void reads() {
        BenchSeats x = new BenchSeats();
        due.is("reads 4", x.reads(4), BAD);
        due.is("reads -1", x.reads(-1), BAD);
        due.is("reads MISSING", x.reads(0), NOTHING);
        x.sheet(0, 1, 13);
        due.is("no SITTERS: the first", x.reads(0), 0);
        x.deal(12);
        due.is("all are 0, but there is no thirteenth", x.reads(0), 12);
        x.mark(0, 12, NONE);
        due.is("as told", x.reads(0), NONE);
        x.mark(0, 3, 1);
        due.is("one off", x.reads(0), 3);
        x.mark(0, 3, NONE);
        due.is("numbers alone", x.reads(0), NONE);
        x.turns(5, 0);
        x.sits(5, 0);
        due.is("it paid", x.reads(0), 5);
        x.mark(0, 5, -1);
        due.is("told so", x.reads(0), NONE);
        x.sheet(0, 0, 0);
        due.is("of an empty one", x.reads(0), NONE);
    }

    private static void copy() {
        BenchSeats x = new BenchSeats();
        x.sheet(0, 0, 5);
        x.sheet(1, 0, 3);
        x.sheet(2, 1, 5);
        for (int i = 0; i < 5; i++) {
            x.mark(0, i, i + 1);
        }
        int[][] rows = {
            {4, 0, 0, 0, 1, BAD}, {-1, 0, 0, 0, 1, BAD}, {0, 0, 4, 0, 1, BAD}, {3, 0, -1, 0, 1, BAD},
            {3, 9, 0, 0, 1, NOTHING}, {0, 0, 3, 9, 1, NOTHING}, {0, 9, 2, 0, 1, KIND}, {2, 0, 0, 0, 9, KIND},
            {0, -1, 1, 0, 1, INDEX}, {0, 0, 1, -1, 1, INDEX}, {0, 0, 1, 0, -1, INDEX}, {0, 0, 1, 0, 4, INDEX},
            {0, 3, 1, 0, 3, INDEX}, {0, 6, 1, 0, 0, INDEX}, {0, 0, 1, 4, 0, INDEX},
            {0, 1, 1, 1, Integer.MAX_VALUE, INDEX}, {0, Integer.MAX_VALUE, 1, 1, 1, INDEX},
            {0, 5, 1, 3, 0, 0}, {0, 2, 1, 0, 3, 3}, {0, 0, 0, 1, 4, 4}};
        for (int i = 0; i < rows.length; i++) {
            int[] r = rows[i];
            due.is("copy " + i, x.copy(r[0], r[1], r[2], r[3], r[4]), r[5]);
        }
        int[] first = {1, 1, 2, 3, 4};
        int[] second = {3, 4, 5};
        for (int i = 0; i < 5; i++) {
            due.is("as they were " + i, seen(x, 0, i), first[i]);
        }
        for (int i = 0; i < 3; i++) {
            due.is("copied " + i, seen(x, 1, i), second[i]);
        }
        due.is("down over itself", x.copy(0, 1, 0, 0, 4), 4);
        due.is("down 1", seen(x, 0, 1), 2);
        due.is("down 3", seen(x, 0, 3), 4);
        x.mark(2, 4, NONE);
        x.sheet(3, 1, 1);
        due.is("floats", x.copy(2, 4, 3, 0, 1), 1);
        due.is("NO NUMBER comes along", seen(x, 3, 0), KIND);
    }

    private static void slots() {
        BenchSeats x = new BenchSeats();
        int[][] bad = {{5, 0, 0}, {-1, 0, 0}, {0, 4, 0}, {0, -1, 0}, {0, 1, 0}, {0, 1, -1}, {0, 2, 4}, {0, 2, -1}};
        for (int[] b : bad) {
            due.is("lay wrong", x.lay(b[0], b[1], b[2]), BAD);
        }
        due.is("lay MISSING", x.lay(0, 2, 0), NOTHING);
        due.is("nothing, k any", x.lay(0, 0, -9), 0);
        due.is("the number", x.lay(0, 3, Integer.MIN_VALUE), 0);
        due.is("a refused one keeps it", x.lay(0, 2, 0), NOTHING);
        due.is("rest", x.rest(0, 10), -8);
        due.is("rest by -1", x.rest(0, -1), 0);
        due.is("rest by 0", x.rest(0, 0), NO);
        due.is("ask of a number", x.ask(0, 0), KIND);
        due.is("item of a number", x.item(0, 0), KIND);
        x.sitter(4);
        due.is("a SITTER for a number", x.lay(0, 1, 0), 3);
        due.is("rest of a SITTER", x.rest(0, 0), KIND);
        due.is("item of a SITTER", x.item(0, 0), KIND);
        x.sheet(1, 0, 2);
        x.mark(1, 1, 77);
        due.is("a SHEET for a SITTER", x.lay(0, 2, 1), 1);
        due.is("rest of a SHEET", x.rest(0, 0), KIND);
        due.is("ask of a SHEET", x.ask(0, 0), KIND);
        x.mark(1, 1, 78);
        due.is("as it was then", x.item(0, 1), 77);
        x.sheet(1, -1, 0);
        due.is("though it is MISSING now", x.item(0, 1), 77);
        due.is("item 2", x.item(0, 2), INDEX);
        due.is("item -1", x.item(0, -1), INDEX);
        due.is("nothing for a SHEET", x.lay(0, 0, 0), 2);
        due.is("ask nothing", x.ask(0, 0), NOTHING);
        due.is("item of nothing", x.item(0, -1), NOTHING);
        due.is("rest of nothing", x.rest(0, 0), NOTHING);
        due.is("ask slot 5", x.ask(5, 0), BAD);
        due.is("ask slot -1", x.ask(-1, 0), BAD);
        due.is("ask kind 6 ahead of NOTHING", x.ask(0, 6), BAD);
        due.is("ask kind -1", x.ask(0, -1), BAD);
        due.is("item slot 5", x.item(5, 0), BAD);
        due.is("item slot -1", x.item(-1, 0), BAD);
        due.is("rest slot 5", x.rest(5, 1), BAD);
        due.is("rest slot -1", x.rest(-1, 1), BAD);
    }

    private static void asked() {
        BenchSeats x = new BenchSeats();
        int[] worths = {1, 7, 98, 14, 94, 3};
        int[][] above = {{0}, {0, 1}, {0, 2}, {0, 1, 3}, {0, 2, 4}, {0, 5}};
        for (int k = 0; k < 6; k++) {
            x.sitter(k);
            x.sits(k, 0);
            x.rises(k);
            x.lay(2, 1, k);
            x.sits(k, 0);
            x.rises(k);
            x.turns(k, 0);
            for (int wanted = 0; wanted < 6; wanted++) {
                int want = KIND;
                for (int a : above[k]) {
                    want = a == wanted ? worths[k] : want;
                }
                due.is("kind " + k + " asked as " + wanted, x.ask(2, wanted), want);
            }
        }
        x.keep();
        x.bench(2, 0, 0);
        x.back();
        due.is("it holds for good", x.ask(2, 5), 3);
    }

    public static void main(String[] args) {
        sheet();
        mark();
        pour();
        reads();
        copy();
        slots();
        asked();
        due.end("SheetsTest");
    }
}
