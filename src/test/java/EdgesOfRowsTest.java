import java.math.BigInteger;
import java.util.ArrayList;
import java.util.List;

/** The boundary cases that promises 25 to 30 name, sentence by sentence. */
public final class EdgesOfRowsTest {
    private static final int MIN = Integer.MIN_VALUE;
    private static final int MAX = Integer.MAX_VALUE;
    private static final int[] NO_SIDE = {-1, 2, 3, MIN, MAX};
    private static final int[] NO_PART = {-1, 2, 3, MIN, MAX};
    private static final Check check = new Check("EdgesOfRowsTest");

    public static void main(String[] args) {
        oddsOf();
        oddsOfNone();
        best();
        climbed();
        climbedTies();
        rests();
        restsNone();
        guess();
        guessNone();
        drawn();
        drawnBounds();
        check.finish();
    }

    // ---- rows, told anew as texts

    private static List<String> rowsOf(int n) {
        List<String> rows = new ArrayList<>();
        for (int v = 0; v < 100000; v++) {
            String digits = String.format("%05d", v).substring(5 - n);
            boolean fits = v < Math.pow(10, n);
            for (int d = 0; fits && d < n; d++) {
                fits = digits.indexOf('0' + d) >= 0;
            }
            if (fits) {
                rows.add(digits);
            }
        }
        return rows;
    }

    private static String inRow(String skills, String row) {
        StringBuilder b = new StringBuilder();
        for (int i = 0; i < row.length(); i++) {
            b.append(skills.charAt(row.charAt(i) - '0'));
        }
        return b.toString();
    }

    /** Upper and lower number of a side's odds, with both told anew. */
    private static long[] told(String a, String b, String more, int side) {
        KickOdds x = Check.of("a " + a + ";b " + b + more);
        return new long[] {x.odds(side, 0), x.odds(side, 1)};
    }

    private static long[] toldBy(String a, String b, String more, int side, String row) {
        return side == 0 ? told(inRow(a, row), b, more, 0) : told(a, inRow(b, row), more, 1);
    }

    private static int compare(long[] f, long[] g) {
        return BigInteger.valueOf(f[0]).multiply(BigInteger.valueOf(g[1]))
            .compareTo(BigInteger.valueOf(g[0]).multiply(BigInteger.valueOf(f[1])));
    }

    // ---- 25

    private static void oddsOf() {
        check.says(25, "ODDS of a SIDE by the row of its SHOOTERS told by numbers as the digits of row");
        String a = "15246";
        String b = "34152";
        String more = ";behind a -2;ahead b 1;order 2;first b";
        for (int n = 1; n <= 4; n++) {
            String ofA = a.substring(0, n);
            String ofB = b.substring(0, n);
            for (String row : rowsOf(n)) {
                for (int side = 0; side < 2; side++) {
                    long[] want = toldBy(ofA, ofB, more, side, row);
                    KickOdds x = Check.of("a " + ofA + ";b " + ofB + more);
                    int digits = Integer.parseInt(row);
                    check.fraction("row " + row, want[0], want[1], x.oddsOf(side, digits, 0), x.oddsOf(side, digits, 1));
                }
            }
        }
        check.says(25, "(first the highest of its n digits)");
        for (String row : new String[] {"01234", "10234", "43210", "02134", "40123"}) {
            long[] want = toldBy(a, b, more, 1, row);
            KickOdds x = Check.of("a " + a + ";b " + b + more);
            x.kick(true);
            int digits = Integer.parseInt(row);
            check.fraction("row " + row, want[0], want[1], x.oddsOf(1, digits, 0), x.oddsOf(1, digits, 1));
            check.due("the row is as it was", 3, x.side(1, 10));
        }
    }

    private static void oddsOfNone() {
        check.says(25, "NONE: others, it is no row of all.");
        String three = "a 152;b 341";
        for (int row : new int[] {-1, 0, 1, 10, 11, 13, 21 + 1, 123, 112, 111, 211, 310, 1012, 1210, 2100, 12345, -12, MIN, MAX}) {
            check.stays("row " + row, -1, three, "x", x -> x.oddsOf(0, row, 0));
        }
        for (int row : new int[] {12, 21, 102, 120, 201, 210}) {
            KickOdds x = Check.of(three);
            check.due("row " + row + " is one", true, x.oddsOf(1, row, 0) > 0 && x.oddsOf(1, row, 1) > 0);
        }
        for (int row : new int[] {1, 10, -1, MIN, MAX}) {
            check.stays("row " + row + " of one", -1, "a 3;b 4", "x", x -> x.oddsOf(0, row, 0));
        }
        for (int row : new int[] {123, 1233, 1235, 11234, 101234, 43215, 56789, 99999, 100000}) {
            check.stays("row " + row + " of five", -1, "a 12345;b 54321", "x", x -> x.oddsOf(0, row, 1));
        }
        for (int none : NO_SIDE) {
            check.stays("side " + none, -1, three, "x", x -> x.oddsOf(none, 12, 0));
        }
        for (int none : NO_PART) {
            check.stays("what " + none, -1, three, "x", x -> x.oddsOf(1, 12, none));
        }
        check.stays("no SIDES", -1, "", "", x -> x.oddsOf(0, 0, 0));
        check.stays("no SIDES", -1, "", "", x -> x.oddsOf(1, 12, 1));
    }

    // ---- 26

    private static void bestIs(String a, String b, String more) {
        for (int side = 0; side < 2; side++) {
            long[] top = null;
            String want = "";
            for (String row : rowsOf(a.length())) {
                long[] f = toldBy(a, b, more, side, row);
                if (top == null || compare(f, top) > 0) {
                    top = f;
                    want = row;
                }
            }
            KickOdds x = Check.of("a " + a + ";b " + b + more);
            check.due(a + " " + b + more + " best of " + side, Integer.parseInt(want), x.best(side));
            x.kick(true);
            x.kick(false);
            check.due(a + " " + b + more + " best of " + side + " behind KICKS", Integer.parseInt(want), x.best(side));
        }
    }

    private static void best() {
        check.says(26, "The row of a SIDE's SHOOTERS with the most ODDS");
        bestIs("3", "4", "");
        bestIs("14", "52", ";behind a -1");
        bestIs("146", "523", ";behind a -1;ahead b 2;order 3");
        bestIs("1462", "5230", ";behind b -2;ahead a 1;first b");
        bestIs("14625", "52304", ";behind b -2;ahead a 1;order 1");
        check.due("the last of all rows", 43210, Check.of("a 12345;b 33333").best(0));
        check.due("the first of all rows", 1234, Check.of("a 54321;b 33333").best(0));
        check.due("the last of four", 3210, Check.of("a 1245;b 3333").best(0));
        check.says(26, "of like ones the least, as digits.");
        bestIs("155", "255", "");
        bestIs("266", "406", "");
        bestIs("66066", "06660", ";order 2");
        check.due("all alike", 1234, Check.of("a 33333;b 12345").best(0));
        check.due("nobody ever wins", 12, Check.of("a 666;b 666").best(1));
        check.due("all lost", 1, Check.of("a 00;b 66").best(0));
        check.due("one", 0, Check.of("a 5;b 1").best(1));
        check.says(26, "NONE.");
        for (int none : NO_SIDE) {
            check.stays("side " + none, -1, "a 12;b 34", "x", x -> x.best(none));
        }
        check.stays("no SIDES", -1, "", "", x -> x.best(0));
        check.stays("no SIDES", -1, "", "", x -> x.best(1));
    }

    // ---- 27

    private static String swapped(String row, int i, int j) {
        char[] digits = row.toCharArray();
        digits[i] = row.charAt(j);
        digits[j] = row.charAt(i);
        return new String(digits);
    }

    /** Climbs by texts told anew, the first of like exchanges being taken. */
    private static void climbedIs(String a, String b, String more, int side) {
        String row = "01234".substring(0, a.length());
        int exchanges = 0;
        for (boolean higher = true; higher;) {
            long[] top = toldBy(a, b, more, side, row);
            String next = row;
            for (int i = 0; i < row.length(); i++) {
                for (int j = i + 1; j < row.length(); j++) {
                    long[] f = toldBy(a, b, more, side, swapped(row, i, j));
                    if (compare(f, top) > 0) {
                        top = f;
                        next = swapped(row, i, j);
                    }
                }
            }
            higher = !next.equals(row);
            exchanges += higher ? 1 : 0;
            row = next;
        }
        KickOdds x = Check.of("a " + a + ";b " + b + more);
        String what = a + " " + b + more + " climbed of " + side;
        check.due(what, Integer.parseInt(row), x.climbed(side, 0));
        check.due(what + ", exchanges", exchanges, x.climbed(side, 1));
        x.kick(true);
        check.due(what + " behind a KICK", Integer.parseInt(row), x.climbed(side, 0));
        check.due(what + ": the row is as it was", a.charAt(0) - '0', x.side(0, 10));
    }

    private static void climbed() {
        check.says(27, "CLIMBED: from the row as it is, again and again the exchange of two places by which the ODDS are the most");
        String[][] told = {{"14", "52", ";behind a -1"}, {"146", "523", ";behind a -1;ahead b 2;order 3"},
            {"1462", "5230", ";behind b -2;ahead a 1;first b"}, {"14625", "52304", ";behind b -2;ahead a 1;order 1"},
            {"01234", "01234", ""}, {"01234", "43210", ";behind a 1;behind b 1"}};
        for (String[] text : told) {
            climbedIs(text[0], text[1], text[2], 0);
            climbedIs(text[0], text[1], text[2], 1);
        }
        // behind an exchange the row as it is has its numbers anew
        KickOdds x = Check.of("a 15;b 33");
        check.due("the better one first", 10, x.climbed(0, 0));
        x.exchange(0, 0, 1);
        check.due("it is first", 1, x.climbed(0, 0));
        check.due("without an exchange", 0, x.climbed(0, 1));
        check.says(27, "as long as they become more: the row then, as digits (what 0), how many exchanges (1).");
        x = Check.of("a 33333;b 12345");
        check.due("none is more", 1234, x.climbed(0, 0));
        check.due("none is more", 0, x.climbed(0, 1));
        x = Check.of("a 666;b 666");
        check.due("nobody ever wins", 12, x.climbed(1, 0));
        check.due("nobody ever wins", 0, x.climbed(1, 1));
        x = Check.of("a 5;b 1");
        check.due("one", 0, x.climbed(1, 0));
        check.due("one", 0, x.climbed(1, 1));
        check.says(27, "NONE.");
        for (int none : NO_SIDE) {
            check.stays("side " + none, -1, "a 12;b 34", "x", y -> y.climbed(none, 0));
        }
        for (int none : NO_PART) {
            check.stays("what " + none, -1, "a 12;b 34", "x", y -> y.climbed(0, none));
        }
        check.stays("no SIDES", -1, "", "", y -> y.climbed(0, 0));
        check.stays("no SIDES", -1, "", "", y -> y.climbed(1, 1));
    }

    /** Texts found by trying, in which several first exchanges are alike and the most. */
    private static void climbedTies() {
        check.says(27, "(of like ones the least place, then the other one)");
        climbedIs("266", "406", "", 0);
        climbedIs("300", "264", ";behind a 3;behind b 2", 1);
        climbedIs("656", "343", ";behind a 1;order 3;first b", 0);
        climbedIs("256", "030", "", 0);
        climbedIs("3666", "1026", "", 0);
        climbedIs("3626", "6100", ";ahead a 2;ahead b -2", 0);
        climbedIs("4604", "3062", ";first b", 1);
        climbedIs("1066", "0505", "", 0);
        climbedIs("6144", "6366", "", 0);
        climbedIs("33550", "00665", ";first b", 0);
        climbedIs("56361", "04400", ";ahead a -2;ahead b -1;order 1;first b", 0);
        climbedIs("06456", "60261", ";ahead a 2;ahead b -2", 1);
        climbedIs("66112", "34006", "", 0);
        // (0, 1) and (0, 2) make it as much: the other place is the lesser one
        KickOdds x = Check.of("a 266;b 406");
        check.fraction("both are alike", x.oddsOf(0, 102, 0), x.oddsOf(0, 102, 1), x.oddsOf(0, 210, 0), x.oddsOf(0, 210, 1));
        check.due("by (0, 1)", 102, x.climbed(0, 0));
        // (0, 2) and (1, 2): place 0 is the lesser one
        x = Check.of("a 256;b 030");
        check.fraction("both are alike", x.oddsOf(0, 210, 0), x.oddsOf(0, 210, 1), x.oddsOf(0, 21, 0), x.oddsOf(0, 21, 1));
        check.due("by (0, 2)", 210, x.climbed(0, 0));
    }

    // ---- 28

    private static void restsAre(String a, String b, String more) {
        List<String> rows = rowsOf(a.length());
        int m = rows.size();
        long[][][] ofA = new long[m][m][];
        long[][][] ofB = new long[m][m][];
        for (int i = 0; i < m * m; i++) {
            KickOdds x = Check.of("a " + inRow(a, rows.get(i / m)) + ";b " + inRow(b, rows.get(i % m)) + more);
            ofA[i / m][i % m] = new long[] {x.odds(0, 0), x.odds(0, 1)};
            ofB[i / m][i % m] = new long[] {x.odds(1, 0), x.odds(1, 1)};
        }
        int[] want = {0, -2, -2};
        for (int i = m * m - 1; i >= 0; i--) {
            boolean rest = true;
            for (int k = 0; k < m; k++) {
                rest &= compare(ofA[k][i % m], ofA[i / m][i % m]) <= 0 && compare(ofB[i / m][k], ofB[i / m][i % m]) <= 0;
            }
            if (rest) {
                want = new int[] {want[0] + 1, Integer.parseInt(rows.get(i / m)), Integer.parseInt(rows.get(i % m))};
            }
        }
        KickOdds x = Check.of("a " + a + ";b " + b + more);
        for (int what = 0; what < 3; what++) {
            check.due(a + " " + b + more + " rests(" + what + ")", want[what], x.rests(what));
        }
        x.kick(true);
        check.due(a + " " + b + more + " rests(0) behind a KICK", want[0], x.rests(0));
    }

    private static void rests() {
        check.says(28, "Pairs of rows of both SIDES, so that neither has more ODDS by another row of its own: how many (what 0)");
        restsAre("3", "4", "");
        restsAre("54", "62", ";ahead a 2");
        restsAre("44", "40", ";first b");
        restsAre("06", "06", ";ahead b 1;order 2;first b");
        restsAre("60", "06", ";ahead a -3;first b");
        restsAre("66", "10", ";ahead a 3");
        restsAre("203", "661", "");
        restsAre("1462", "5230", ";behind b -2;ahead a 1;first b");
        check.due("24 by 24", 576, Check.of("a 6666;b 6666").rests(0));
        check.says(28, "the least by a's, then b's row: a's (1), b's (2) as digits");
        restsAre("53", "05", "");
        restsAre("02", "31", "");
        restsAre("34", "15", ";ahead a -1;order 0;first b");
        restsAre("606", "362", ";order 2");
        restsAre("445", "233", "");
        restsAre("004", "022", "");
        restsAre("005", "562", ";ahead a 3");
        check.says(28, "(-2: there is none)");
        restsAre("24", "13", ";behind a 2;behind b 3");
        restsAre("563", "353", ";ahead a -2;order 2;first b");
        KickOdds x = Check.of("a 24;b 13;behind a 2;behind b 3");
        check.due("none", 0, x.rests(0));
        check.due("a's of none", -2, x.rests(1));
        check.due("b's of none", -2, x.rests(2));
        // by what stands: an act, an undo(), other sides change what it answers
        x = Check.of("a 53;b 05");
        check.due("b's", 10, x.rests(2));
        x.exchange(1, 0, 1);
        check.due("b's behind an exchange", 1, x.rests(2));
        x.undo();
        check.due("b's behind undo()", 10, x.rests(2));
        x.keep(0);
        x.exchange(1, 0, 1);
        check.due("b's behind an exchange", 1, x.rests(2));
        x.again(0);
        check.due("b's behind again()", 10, x.rests(2));
        Check.teams(x, "a 02;b 31");
        check.due("b's behind teams()", 1, x.rests(2));
        x = Check.of("a 24;b 13;behind a 2;behind b 3");
        check.due("none by order 0", 0, x.rests(0));
        KickOdds y = Check.of("a 24;b 13;behind a 2;behind b 3;first b");
        x.first(1);
        check.due("behind first()", y.rests(0), x.rests(0));
        y = Check.of("a 24;b 13;behind a 2;behind b 3;first b;order 3");
        x.order(3);
        check.due("behind order()", y.rests(0), x.rests(0));
    }

    private static void restsNone() {
        check.says(28, "-3: n is 5");
        for (int what = 0; what < 3; what++) {
            int asked = what;
            check.stays("n is 5", -3, "a 12345;b 54321", "x", x -> x.rests(asked));
            check.stays("n is 5, all alike", -3, "a 33333;b 33333", "", x -> x.rests(asked));
        }
        check.due("n is 4", true, Check.of("a 1234;b 4321").rests(0) >= 0);
        check.says(28, "NONE.");
        for (int none : new int[] {-1, 3, 4, MIN, MAX}) {
            check.stays("what " + none, -1, "a 12;b 34", "x", x -> x.rests(none));
            check.stays("what " + none + ", n is 5", -1, "a 12345;b 54321", "x", x -> x.rests(none));
        }
        for (int what = 0; what < 3; what++) {
            int asked = what;
            check.stays("no SIDES", -1, "", "", x -> x.rests(asked));
        }
    }

    // ---- 29

    private static void guessIs(int l, int r, int s, int up, int low, int leftUp, int leftLow) {
        KickOdds x = new KickOdds();
        String call = "guess(" + l + ", " + r + ", " + s + ")";
        check.fraction(call, up, low, x.guess(l, r, s, 0), x.guess(l, r, s, 1));
        check.fraction(call + " left", leftUp, leftLow, x.guess(l, r, s, 2), x.guess(l, r, s, 3));
    }

    private static void guess() {
        check.says(29, "A SHOOTER kicks to the left (SKILL l) or to the right (r), the keeper guesses: if that is right, there are s (0 .. 6 each) fewer of 6 (0 at least)");
        // the left is never worse, guessed or not: the keeper guesses it, 6 - 2 of 6
        guessIs(6, 1, 2, 2, 3, 1, 1);
        guessIs(1, 6, 2, 2, 3, 0, 1);
        // no right guess costs more than there is
        guessIs(6, 2, 3, 1, 2, 1, 1);
        guessIs(4, 4, 4, 1, 3, 1, 2);
        guessIs(4, 4, 5, 1, 3, 1, 2);
        check.says(29, "how likely a goal is, if both choose so that none of them would have more otherwise (what 0, 1: a FRACTION)");
        guessIs(6, 6, 6, 1, 2, 1, 2);
        guessIs(6, 6, 3, 3, 4, 1, 2);
        // left 2 or 5, right 4 or 1: p (5 - 2) = (1 - p) (4 - 1): a half, 3 of 6
        guessIs(5, 4, 3, 1, 2, 1, 2);
        // left 0 or 2, right 6 or 2: 2 p = 4 (1 - p): 2 of 3, then 2 of 6
        guessIs(2, 6, 4, 1, 3, 2, 3);
        // one corner is never worse: it alone
        guessIs(6, 1, 1, 5, 6, 1, 1);
        guessIs(1, 6, 1, 5, 6, 0, 1);
        guessIs(6, 0, 6, 0, 1, 1, 1);
        guessIs(0, 6, 6, 0, 1, 1, 1);
        check.says(29, "(0 at least)");
        // left 0 or 3, not -3 or 3; right 6 or 0: 3 p = 6 (1 - p)
        guessIs(3, 6, 6, 1, 3, 2, 3);
        guessIs(1, 1, 6, 1, 12, 1, 2);
        guessIs(0, 0, 6, 0, 1, 1, 1);
        guessIs(1, 2, 2, 1, 9, 2, 3);
        check.says(29, "how likely he kicks to the left then (2, 3: a FRACTION; of several the greatest)");
        // nothing is lost by a right guess
        guessIs(3, 3, 0, 1, 2, 1, 1);
        guessIs(0, 0, 0, 0, 1, 1, 1);
        guessIs(6, 6, 0, 1, 1, 1, 1);
        guessIs(3, 2, 0, 1, 2, 1, 1);
        guessIs(2, 3, 0, 1, 2, 0, 1);
        // left 2 or 3, right 2 or 1: from 1 / 2 on all is 2 of 6, the greatest is 1
        guessIs(3, 2, 1, 1, 3, 1, 1);
        guessIs(2, 3, 1, 1, 3, 1, 2);
        guessIs(6, 4, 2, 2, 3, 1, 1);
        guessIs(4, 6, 2, 2, 3, 1, 2);
    }

    private static void guessNone() {
        check.says(29, "s (0 .. 6 each)");
        for (int v : new int[] {0, 6}) {
            KickOdds x = new KickOdds();
            for (int what = 0; what < 4; what++) {
                check.due("l " + v, true, x.guess(v, 3, 3, what) >= 0);
                check.due("r " + v, true, x.guess(3, v, 3, what) >= 0);
                check.due("s " + v, true, x.guess(3, 3, v, what) >= 0);
            }
        }
        check.says(29, "NONE: numbers.");
        for (String sides : new String[] {"", "a 3;b 4"}) {
            for (int v : new int[] {-1, 7, 8, MIN, MAX}) {
                check.stays("l " + v, -1, sides, "", x -> x.guess(v, 3, 3, 0));
                check.stays("r " + v, -1, sides, "", x -> x.guess(3, v, 3, 1));
                check.stays("s " + v, -1, sides, "", x -> x.guess(3, 3, v, 2));
            }
            for (int what : new int[] {-1, 4, 5, MIN, MAX}) {
                check.stays("what " + what, -1, sides, "", x -> x.guess(3, 3, 3, what));
            }
        }
        check.due("no SIDES are needed", 1, new KickOdds().guess(6, 6, 6, 0));
    }

    // ---- 30

    /** By the promise's words, with a shoot-out told anew for each: kicks are made on it. */
    private static long[] draw(String sides, String kicks, long seed, int n) {
        long s = seed;
        long[] answer = new long[4];
        for (int i = 0; i < n; i++) {
            KickOdds x = Check.of(sides);
            for (int k = 0; k < kicks.length(); k++) {
                x.kick(kicks.charAt(k) == 'x');
            }
            while (x.count(4) == 0 && x.count(1) < 60) {
                s = (1103 * s + 12345) % 1000003;
                x.kick(s % 6 < x.turn(3));
            }
            int winner = x.count(4) == 0 ? 2 : x.side(0, 2) > x.side(1, 2) ? 0 : 1;
            answer[winner]++;
            answer[3] = Math.max(answer[3], x.count(1));
        }
        return answer;
    }

    private static void drawnIs(String sides, String kicks, int seed, int n) {
        long[] want = draw(sides, kicks, seed, n);
        KickOdds x = Check.of(sides);
        for (int k = 0; k < kicks.length(); k++) {
            x.kick(kicks.charAt(k) == 'x');
        }
        for (int what = 0; what < 4; what++) {
            check.due(sides + " behind " + kicks + ": drawn(" + seed + ", " + n + ", " + what + ")", want[what],
                x.drawn(seed, n, what));
        }
        check.due("nothing is done", kicks.length(), x.count(1));
    }

    private static void drawn() {
        check.says(30, "s becomes (1,103 s and 12,345) modulo 1,000,003 ahead of each KICK, it is a goal, if s modulo 6 is below CHANCE");
        drawnIs("a 3;b 3", "", 0, 1);
        drawnIs("a 3;b 3", "", 1, 20);
        drawnIs("a 24135;b 33333;behind a 2;ahead a -1;behind b -2;order 3", "", 123456, 30);
        drawnIs("a 24135;b 33333;behind a 2;ahead a -1;behind b -2;order 2;first b", "xox", 654321, 30);
        // s becomes 12345 (modulo 6: 3), so CHANCE 3 is no goal and CHANCE 4 is one
        check.due("b's CHANCE 3 is none at 3", true, Check.of("a 0;b 3;first b").drawn(0, 1, 3) > 2);
        check.due("b's CHANCE 4 is one at 3", 2, Check.of("a 0;b 4;first b").drawn(0, 1, 3));
        check.says(30, "each goes on till it is OVER, or has 60 KICKS in all");
        drawnIs("a 0;b 0", "", 7, 3);
        drawnIs("a 6;b 6", "xx", 7, 3);
        drawnIs("a 6;b 6", "x".repeat(59), 7, 3);
        drawnIs("a 3;b 3", "x".repeat(59), 7, 20);
        KickOdds x = Check.of("a 3;b 3");
        for (int i = 0; i < 60; i++) {
            x.kick(true);
        }
        check.due("60 already: nobody", 5, x.drawn(7, 5, 2));
        check.due("60 already", 60, x.drawn(7, 5, 3));
        drawnIs("a 3;b 3", "xo", 7, 5);
        drawnIs("a 33;b 33", "oxo", 7, 5);
        check.says(30, "(s goes on from one to the next)");
        drawnIs("a 3;b 3", "", 5, 2);
        drawnIs("a 3;b 3", "", 5, 100);
        drawnIs("a 34;b 43;behind b 1", "x", 77, 100);
        check.says(30, "won by a (what 0), by b (1), by nobody (2), the most KICKS of one in all (3).");
        x = Check.of("a 35;b 41");
        check.due("all of them", 100, x.drawn(9, 100, 0) + x.drawn(9, 100, 1) + x.drawn(9, 100, 2));
        x = Check.of("a 6;b 0");
        check.due("by a", 8, x.drawn(9, 8, 0));
        check.due("none by b", 0, x.drawn(9, 8, 1));
        x = Check.of("a 0;b 6");
        check.due("by b", 8, x.drawn(9, 8, 1));
        check.due("none by a", 0, x.drawn(9, 8, 0));
        check.due("KICKS", 2, x.drawn(9, 8, 3));
    }

    private static void drawnBounds() {
        check.says(30, "n (1 .. 100) shoot-outs from NOW on by a SEED (0 .. 999,999)");
        drawnIs("a 3;b 3", "", 999999, 1);
        drawnIs("a 3;b 3", "", 999999, 100);
        drawnIs("a 35;b 33", "", 0, 100);
        drawnIs("a 6;b 0", "", 0, 1);
        check.says(30, "-1;");
        for (int seed : new int[] {-1, 1000000, 1000003, MIN, MAX}) {
            check.stays("seed " + seed, -1, "a 3;b 4", "x", x -> x.drawn(seed, 1, 0));
        }
        for (int n : new int[] {-1, 0, 101, MIN, MAX}) {
            check.stays("n " + n, -1, "a 3;b 4", "x", x -> x.drawn(0, n, 0));
        }
        for (int what : new int[] {-1, 4, 5, MIN, MAX}) {
            check.stays("what " + what, -1, "a 3;b 4", "x", x -> x.drawn(0, 1, what));
        }
        check.says(30, "-2.");
        for (int what = 0; what < 4; what++) {
            int asked = what;
            check.stays("no SIDES", -2, "", "", x -> x.drawn(0, 1, asked));
        }
        check.stays("no SIDES, but a number first", -1, "", "", x -> x.drawn(0, 1, 4));
        check.stays("no SIDES, but a number first", -1, "", "", x -> x.drawn(-1, 1, 0));
    }
}
