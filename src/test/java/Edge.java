import java.util.ArrayList;
import java.util.List;
import java.util.TreeSet;

/**
 * What the tests of boundary cases share: answers due, each by the number of its promise, and calls behind which
 * all must be as it would be without them. An object answers for 512 calls, so what can be seen of one is looked at
 * on three objects with the same story: the inn, the things beside it, the image.
 */
final class Edge {
    interface Story {
        void of(BenchSeats x);
    }

    interface Call {
        int of(BenchSeats x);
    }

    interface Look {
        List<Integer> at(BenchSeats x);
    }

    private static final Look[] LOOKS = {Edge::inn, Edge::things, Edge::image};

    private final Due due = new Due();
    private final TreeSet<Integer> promises = new TreeSet<>();

    void is(int promise, String sentence, int got, int want) {
        promises.add(promise);
        due.is("promise " + promise + ": " + sentence, got, want);
    }

    /** A call that is refused on an inn that has some of everything. */
    void refused(int promise, String sentence, Call call, int want) {
        refused(promise, sentence, x -> { }, call, want);
    }

    /** A call that is refused behind some more calls on such an inn. */
    void refused(int promise, String sentence, Story more, Call call, int want) {
        leaves(promise, sentence, livedInAnd(more), call, want, x -> { });
    }

    /** A call that answers what is wanted and changes nothing. */
    void asks(int promise, String sentence, Story more, Call call, int want) {
        leaves(promise, sentence, livedInAnd(more), call, want, x -> { });
    }

    /** A call that answers what is wanted and leaves all as other calls in its stead would. */
    void leaves(int promise, String sentence, Story story, Call call, int want, Story instead) {
        for (int i = 0; i < LOOKS.length; i++) {
            BenchSeats x = new BenchSeats();
            story.of(x);
            is(promise, sentence, call.of(x), want);
            BenchSeats y = new BenchSeats();
            story.of(y);
            instead.of(y);
            same(promise, sentence + ", look " + i, LOOKS[i].at(x), LOOKS[i].at(y));
        }
    }

    private void same(int promise, String sentence, List<Integer> got, List<Integer> want) {
        is(promise, sentence + ": as much is seen", got.size(), want.size());
        for (int i = 0; i < Math.min(got.size(), want.size()); i++) {
            is(promise, sentence + ": what is seen " + i, got.get(i), want.get(i));
        }
    }

    private static Story livedInAnd(Story more) {
        return x -> {
            livedIn(x);
            more.of(x);
        };
    }

    /**
     * Seven sitters on a ring of 9: 0 AT 0, 1 (WIDE) AT 3, 5 (SHY) AT 6; 2, 3, 4, 6 stand. Three texts. An image of
     * another bench, whose first two minutes wait as numbers. Sheets: 0 of four shorts, 1 of five floats, 2 missing,
     * 3 of no places. Slots: nothing, a FAT sitter, floats, a number, shorts. The tape has a text.
     */
    static void livedIn(BenchSeats x) {
        x.seed(5);
        for (int kind = 0; kind < 6; kind++) {
            x.sitter(kind);
        }
        x.cushion(2, 30);
        x.cushion(6, 99);
        x.rule(0, 3);
        x.rule(1, 2);
        x.rule(2, 60);
        x.rule(3, 20);
        Due.text(x, "fare p+c-s");
        x.sits(0, 2);
        x.minutes(3);
        x.keep();
        for (int n = 1; n <= 2; n++) {
            x.tell(x.behind(n, 0));
            x.tell(x.behind(n, 1));
        }
        x.bench(9, 1, 1);
        x.sitter(4);
        x.sits(0, 0);
        x.sits(1, 3);
        x.sits(5, 6);
        x.cushion(0, 7);
        x.cushion(8, 12);
        Due.text(x, "fee t*10+m");
        Due.text(x, "fine p-s");
        layOut(x);
        Due.feed(x, "fee t*2+1");
    }

    private static void layOut(BenchSeats x) {
        row(x, 0, 0, 1, -2, 300, 7);
        row(x, 1, 1, BenchSeats.NONE, 0, 2, 4, -99999);
        x.sheet(3, 0, 0);
        x.lay(1, 1, 3);
        x.lay(2, 2, 1);
        x.lay(3, 3, -11);
        x.lay(4, 2, 0);
        x.mark(0, 0, 9);
        x.mark(1, 1, 5);
    }

    /** A sheet with these places. */
    static void row(BenchSeats x, int sheet, int sort, int... marks) {
        x.sheet(sheet, sort, marks.length);
        for (int i = 0; i < marks.length; i++) {
            x.mark(sheet, i, marks[i]);
        }
    }

    /** One more sitter of a kind, who sits down: what it pays. */
    static int seat(BenchSeats x, int kind, int place) {
        return x.sits(x.sitter(kind), place);
    }

    /** Twelve on a ring of twelve: those between none first, those between two behind them. */
    static void fullRing(BenchSeats x) {
        x.bench(12, 1, 0);
        for (int p = 0; p < 12; p += 2) {
            seat(x, 0, p);
        }
        for (int p = 1; p < 12; p += 2) {
            seat(x, 0, p);
        }
    }

    /** Sitters come till there are twelve. */
    static void fillUp(BenchSeats x) {
        for (int k = x.count(0); k < 12; k++) {
            x.sitter(0);
        }
    }

    /** Minutes go by up to a last one, without anybody coming or rising. */
    static void waitUntil(BenchSeats x, int minute) {
        int come = x.rule(2, 0);
        int rise = x.rule(3, 0);
        int now = x.count(4);
        while (now < minute) {
            int some = Math.min(100, minute - now);
            x.minutes(some);
            now += some;
        }
        x.rule(2, come);
        x.rule(3, rise);
    }

    static int draw(int z) {
        return z * 1103515245 + 12345;
    }

    /** z behind so many draws. */
    static int drawn(int z, int many) {
        for (int i = 0; i < many; i++) {
            z = draw(z);
        }
        return z;
    }

    /** The rest that the so-manieth draw from a seed gives. */
    static int rest(int z, int nth, int by) {
        return (drawn(z, nth) >>> 8) % by;
    }

    /** The least seed whose so-manieth draw gives this rest. */
    static int seedFor(int nth, int by, int rest) {
        int seed = 0;
        while (rest(seed, nth, by) != rest) {
            seed++;
        }
        return seed;
    }

    private static List<Integer> inn(BenchSeats x) {
        List<Integer> seen = new ArrayList<>();
        for (int i = 0; i <= 12; i++) {
            seen.add(x.count(i));
        }
        for (int i = 0; i <= 3; i++) {
            seen.add(x.inn(i));
        }
        int sitters = seen.get(0);
        for (int k = 0; k < sitters; k++) {
            for (int what = 0; what <= 6; what++) {
                seen.add(x.told(k, what));
            }
            seen.add(x.fine(k));
        }
        for (int key = 0; key <= 2; key++) {
            seen.add(x.why(key));
        }
        int texts = seen.get(9);
        for (int t = 0; t < texts; t++) {
            seen.add(x.textTold(t, 0));
            seen.add(x.textTold(t, 1));
        }
        seen.add(x.fee());
        int places = seen.get(1);
        for (int p = 0; p < places; p++) {
            seen.add(x.who(p));
            seen.add(x.cushion(p, 0));
        }
        return seen;
    }

    private static List<Integer> things(BenchSeats x) {
        List<Integer> seen = new ArrayList<>();
        seen.add(x.count(10));
        seen.add(x.count(11));
        for (int slot = 0; slot < 5; slot++) {
            for (int kind = 0; kind < 6; kind++) {
                seen.add(x.ask(slot, kind));
            }
            for (int place = 0; place < 6; place++) {
                seen.add(x.item(slot, place));
            }
            seen.add(x.rest(slot, 1000003));
            seen.add(x.lay(slot, 0, 0));
        }
        for (int sheet = 0; sheet < 4; sheet++) {
            seen.add(x.lay(0, 2, sheet));
            for (int place = 0; place <= 24; place++) {
                seen.add(x.item(0, place));
            }
            seen.add(x.copy(sheet, 0, 0, 0, 0));
        }
        seen.add(x.check(2));
        seen.add(x.text());
        seen.add(x.fee());
        return seen;
    }

    private static List<Integer> image(BenchSeats x) {
        List<Integer> seen = new ArrayList<>();
        seen.add(x.back());
        seen.addAll(inn(x));
        return seen;
    }

    /** Ends the test: each of these promises must have been asked about. */
    void end(String test, int... wanted) {
        for (int promise : wanted) {
            is(promise, "it is asked about", promises.contains(promise) ? 1 : 0, 1);
        }
        due.end(test);
    }
}
