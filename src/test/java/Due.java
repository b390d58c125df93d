/** Counts the answers that are not the ones due, and ends the test by them. */
final class Due {
    private int asked;
    private int wrong;

    void is(String call, int got, int want) {
        asked++;
        if (got != want) {
            wrong++;
            System.out.println(call + " answered " + got + ", due is " + want);
        }
    }

    /** Feeds a text's bytes to the tape, twelve at a time, and trims what is too many. */
    static void feed(BenchSeats x, String bytes) {
        int had = x.count(11);
        for (int i = 0; i < bytes.length(); i += 12) {
            x.feed(four(bytes, i), four(bytes, i + 4), four(bytes, i + 8));
        }
        x.trim(had + bytes.length());
    }

    static int four(String bytes, int from) {
        int four = 0;
        for (int i = from; i < from + 4; i++) {
            four = four << 8 | (i < bytes.length() ? bytes.charAt(i) & 255 : ' ');
        }
        return four;
    }

    static int text(BenchSeats x, String bytes) {
        feed(x, bytes);
        return x.text();
    }

    void end(String test) {
        System.out.println(test + ": " + asked + " answers asked, " + wrong + " not as due");
        if (wrong != 0 || asked == 0) {
            System.exit(1);
        }
    }
}
