/** Promises 25 to 29: the tape and texts. */
public final class TextsTest {
    private static final int BAD = BenchSeats.BAD, FULL = BenchSeats.FULL, NONE = BenchSeats.NONE;
    private static final Due due = new Due();

    private static void tape() {
        BenchSeats x = new BenchSeats();
        due.is("trim 0 of none", x.trim(0), 0);
        due.is("trim 1 of none", x.trim(1), BAD);
        for (int i = 1; i <= 8; i++) {
            due.is("feed " + i, x.feed(i, 0, -1), 12 * i);
        }
        due.is("feed: full", x.feed(0, 0, 0), FULL);
        due.is("96 stay", x.count(11), 96);
        due.is("trim -1", x.trim(-1), BAD);
        due.is("trim 97", x.trim(97), BAD);
        due.is("trim 96", x.trim(96), 96);
        due.is("trim 85", x.trim(85), 85);
        due.is("twelve more would be 97", x.feed(0, 0, 0), FULL);
        due.is("trim 84", x.trim(84), 84);
        due.is("twelve more are 96", x.feed(0, 0, 0), 96);
        due.is("a byte 0 is a fault", x.text(), -100);
        due.is("it is used up", x.count(11), 0);
        due.is("nothing at all", x.text(), -100);
        Due.feed(x, "fee t");
        Due.feed(x, "+1");
        due.is("bytes join", x.text(), 0);
        due.is("used up by a TEXT too", x.count(11), 0);
        due.is("what joined", x.fee(), 1);
    }

    private static void fault(String bytes, int place) {
        BenchSeats x = new BenchSeats();
        due.is("\"" + bytes + "\"", Due.text(x, bytes), -100 - place);
        due.is("\"" + bytes + "\" is used up", x.count(11), 0);
        due.is("\"" + bytes + "\" is no TEXT", x.count(9), 0);
    }

    private static void faults() {
        fault("", 0);
        fault("   ", 3);
        fault("fare", 4);
        fault(" fare  ", 7);
        fault("far p", 0);
        fault("fares", 0);
        fault("farez", 0);
        fault("afare p", 0);
        fault("fare{", 4);
        fault("fare`", 4);
        fault("fare 1:", 6);
        fault("fare 1/", 7);
        fault("  FARE p", 2);
        fault("12", 0);
        fault("fare1", 4);
        fault("fare fare", 5);
        fault("fare 1a", 6);
        fault("fare 1 2", 7);
        fault("fare p1", 6);
        fault("fare pc", 5);
        fault("fare t", 5);
        fault("fee p", 4);
        fault("fine c", 5);
        fault("fare 12345", 5);
        fault("fare 1+", 7);
        fault("fare 1+ ", 8);
        fault("fare +1", 5);
        fault("fare -1", 5);
        fault("fare (1", 7);
        fault("fare (1))", 8);
        fault("fare 1)", 6);
        fault("fare ()", 6);
        fault("fare 1!", 6);
        fault("fare !", 6);
        fault("fare 1<2<3", 8);
        fault("fee 5>3=0", 7);
        fault("fare 1<2+3=1", 10);
        fault("fare 1&2<3>4", 10);
        fault("fare (1<2)<3>1", 12);
        fault("fare 1<=2", 7);
        fault("fare 1&&2", 7);
        fault("fare 1||2", 7);
        fault("fare 1**2", 7);
        fault("fare p,c", 6);
        fault("fare " + (char) 228, 5);
        fault("fare ((((((((( 1", 13);
        fault("fare !!!!!!!!!1", 13);
        fault("fare (((((((((1)))))))))", 13);
        fault("fare !(!(!(!(!(!(!(!(!1))))))))", 21);
        fault("\tfee t", 0);
        fault("fee t\n", 5);
    }

    private static void fits(String e, int value, int things) {
        BenchSeats x = new BenchSeats();
        due.is("\"" + e + "\" is a TEXT", Due.text(x, e), 0);
        due.is("\"" + e + "\"", x.fee(), value);
        due.is("\"" + e + "\" has", x.textTold(0, 1), things);
    }

    private static void values() {
        fits("fee 0", 0, 1);
        fits("fee(9999)", 9999, 1);
        fits("  fee  0012  ", 12, 1);
        fits("fee!t", 1, 1);
        fits("fee 1+2*3-4/2", 5, 5);
        fits("fee 10-3-2", 5, 3);
        fits("fee 100/7/2", 7, 3);
        fits("fee (0-7)/2", -3, 3);
        fits("fee 7/0", 0, 2);
        fits("fee 2*(3+4)", 14, 3);
        fits("fee 1+1<3", 1, 3);
        fits("fee 3<1+1", 0, 3);
        fits("fee 2=2", 1, 2);
        fits("fee 3>2", 1, 2);
        fits("fee 2>2|2<2", 0, 4);
        fits("fee 1|0&0", 1, 3);
        fits("fee 7&9", 1, 2);
        fits("fee 7|0", 1, 2);
        fits("fee 0|0", 0, 2);
        fits("fee !5", 0, 1);
        fits("fee !!5", 1, 1);
        fits("fee !0+1", 2, 2);
        fits("fee !(0+1)", 0, 2);
        fits("fee 2*!0*3", 6, 3);
        fits("fee 1<2&3>2", 1, 4);
        fits("fee (1<2)<3", 1, 3);
        fits("fee !!!!!!!!0", 0, 1);
        fits("fee ((((((((8))))))))", 8, 1);
        fits("fee !(!(!(!(!(!(!(!(0))))))))", 0, 1);
        fits("fee (1)+(2)+(3)+(4)+(5)+(6)+(7)+(8)+(9)", 45, 9);
        fits("fee !1+!1+!1+!1+!1+!1+!1+!1+!0", 1, 9);
        fits("fee 9999*9999*9999", 9999 * 9999 * 9999, 3);
        fits("fee 8192*8192*32", Integer.MIN_VALUE, 3);
        fits("fee 8192*8192*32/(0-1)", Integer.MIN_VALUE, 5);
        fits("fee 1 + 2 * 3", 7, 3);
        fits("fee t+m", 0, 2);
    }

    private static void names() {
        BenchSeats x = new BenchSeats();
        x.sitter(0);
        x.rule(0, 30);
        x.cushion(2, 8);
        due.is("fare", Due.text(x, "fare p*10+c-s"), 0);
        due.is("what it pays", x.sits(0, 2), 308);
        x.rises(0);
        due.is("SAT ahead of it", x.sits(0, 2), 307);
        x.rises(0);
        due.is("fare again", Due.text(x, "fare 0-p*99"), 1);
        due.is("held below", x.sits(0, 0), -999);
        x.rises(0);
        due.is("fare once more", Due.text(x, "fare p*99"), 2);
        due.is("held above", x.sits(0, 0), 999);
    }

    private static void longest() {
        BenchSeats x = new BenchSeats();
        StringBuilder s = new StringBuilder("fee ");
        while (s.length() < 96) {
            s.append("1+");
        }
        due.is("96 bytes that end with a +", Due.text(x, s.toString()), -196);
        StringBuilder t = new StringBuilder("fee 10");
        while (t.length() < 96) {
            t.append("+1");
        }
        due.is("96 bytes", Due.text(x, t.toString()), 0);
        due.is("10 and 45 ones", x.fee(), 55);
        due.is("46 things", x.textTold(0, 1), 46);
        StringBuilder u = new StringBuilder("fee ");
        for (int i = 0; i < 8; i++) {
            u.append("1|1&1<1+1*(");
        }
        due.is("eight deep and no end", Due.text(x, u.toString()), -100 - 92);
    }

    private static void numbersAndKeys() {
        BenchSeats x = new BenchSeats();
        due.is("textTold without", x.textTold(0, 0), BAD);
        due.is("why -1", x.why(-1), BAD);
        due.is("why 3", x.why(3), BAD);
        for (int k = 0; k < 3; k++) {
            due.is("why without", x.why(k), NONE);
        }
        String[] keys = {"fare", "fee", "fine"};
        for (int i = 0; i < 14; i++) {
            due.is("text " + i, Due.text(x, keys[i % 3] + " " + i), i);
            due.is("why", x.why(i % 3), i);
            due.is("key told", x.textTold(i, 0), i % 3);
        }
        due.is("a FAULT ahead of FULL", Due.text(x, "fee"), -103);
        due.is("fifteenth", Due.text(x, "fee 99"), FULL);
        due.is("used up", x.count(11), 0);
        due.is("texts", x.count(9), 14);
        due.is("fee that counts", x.fee(), 13);
        due.is("why fee", x.why(1), 13);
        due.is("why fare", x.why(0), 12);
        due.is("textTold what 2", x.textTold(0, 2), BAD);
        due.is("textTold what -1", x.textTold(0, -1), BAD);
        due.is("textTold 14", x.textTold(14, 0), BAD);
        due.is("textTold -1", x.textTold(-1, 0), BAD);
    }

    public static void main(String[] args) {
        tape();
        faults();
        values();
        names();
        longest();
        numbersAndKeys();
        due.end("TextsTest");
    }
}
