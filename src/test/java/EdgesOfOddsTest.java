import java.math.BigInteger;

/** The boundary cases that promises 14 to 24 name, sentence by sentence. */
public final class EdgesOfOddsTest {
    private static final int NOTHING = Integer.MIN_VALUE;
    private static final int MIN = Integer.MIN_VALUE;
    private static final int MAX = Integer.MAX_VALUE;
    private static final int[] NO_SIDE = {-1, 2, 3, MIN, MAX};
    private static final int[] NO_PART = {-1, 2, 3, MIN, MAX};
    private static final int[] NO_ORDER = {-1, 4, 5, MIN, MAX};
    private static final Check check = new Check("EdgesOfOddsTest");

    public static void main(String[] args) {
        odds();
        oddsNone();
        matters();
        mattersNothing();
        oddsBy();
        unfair();
        fairest();
        toss();
        ends();
        score();
        likely();
        mean();
        needs();
        needsNone();
        check.finish();
    }

    private static KickOdds at(String sides, String kicks) {
        KickOdds x = Check.of(sides);
        for (int i = 0; i < kicks.length(); i++) {
            x.kick(kicks.charAt(i) == 'x');
        }
        return x;
    }

    private static int compare(long up, long low, long up2, long low2) {
        return BigInteger.valueOf(up).multiply(BigInteger.valueOf(low2))
            .compareTo(BigInteger.valueOf(up2).multiply(BigInteger.valueOf(low)));
    }

    // ---- 14

    private static void oddsAre(String sides, String kicks, long up, long low, long up2, long low2) {
        KickOdds x = at(sides, kicks);
        check.fraction(sides + " behind " + kicks + ", a", up, low, x.odds(0, 0), x.odds(0, 1));
        check.fraction(sides + " behind " + kicks + ", b", up2, low2, x.odds(1, 0), x.odds(1, 1));
    }

    private static void odds() {
        check.says(14, "ODDS of a SIDE from NOW on.");
        // a round: a wins 12 of 36, b 6, so of those that end it 2 of 3 and 1 of 3
        String uneven = "a 4;b 3";
        oddsAre(uneven, "", 2, 3, 1, 3);
        // 3 of 6 at once, else from the start: 1 / 2 + 1 / 2 * 2 / 3
        oddsAre(uneven, "x", 5, 6, 1, 6);
        oddsAre(uneven, "o", 1, 3, 2, 3);
        oddsAre(uneven, "xx", 2, 3, 1, 3);
        oddsAre(uneven, "xxx", 5, 6, 1, 6);
        oddsAre(uneven, "xxo", 1, 3, 2, 3);
        oddsAre(uneven, "xo", 1, 1, 0, 1);
        oddsAre(uneven, "ox", 0, 1, 1, 1);
        oddsAre(uneven, "ooxo", 1, 1, 0, 1);
        oddsAre("a 33;b 33", "xox", 1, 1, 0, 1);
        // two shooters: the second sudden round is of the others, then all comes again
        oddsAre("a 63;b 60", "xxoo", 1, 1, 0, 1);
        oddsAre("a 60;b 63", "xxoo", 0, 1, 1, 1);
        // the first sudden round is surely level, in the second a has 6 of 36 by 1 : 0, b 12 by 0 : 1
        oddsAre("a 63;b 64;ahead a 3", "xxoo", 1, 3, 2, 3);
        oddsAre("a 63;b 64;ahead a 3", "xxooxx", 1, 3, 2, 3);
        // a round: 3 of 36 by a, 9 by b, so 1 : 3; behind a's goal b makes 5 of 6: 1 / 6 + 5 / 6 * 1 / 4
        oddsAre("a 3;b 3;behind b 2", "xx", 1, 4, 3, 4);
        oddsAre("a 3;b 3;behind b 2", "xxx", 3, 8, 5, 8);
        // shooter 0: 12 by a, 6 by b, 18 level; shooter 1: 18 by a, 18 level; then shooter 0 again
        String two = "a 43;b 30";
        oddsAre(two, "xxoo", 7, 9, 2, 9);
        oddsAre(two, "xxoox", 17, 18, 1, 18);
        oddsAre(two, "xxooo", 4, 9, 5, 9);
        oddsAre(two, "xxooxx", 8, 9, 1, 9);
        oddsAre(two, "xxooxxx", 1, 1, 0, 1);
        oddsAre(two, "xxooxxo", 7, 9, 2, 9);
        oddsAre(two, "xxooxxoo", 7, 9, 2, 9);
        oddsAre(two, "xxooxxooxx", 8, 9, 1, 9);
        // REGULAR KICKS that are left: 1 / 2 + 1 / 2 * (1 / 2 + 1 / 2 * 1 / 2), then 1 / 2 + 1 / 2 * 1 / 2
        String even = "a 33;b 33";
        oddsAre(even, "", 1, 2, 1, 2);
        oddsAre(even, "xo", 7, 8, 1, 8);
        oddsAre(even, "xoo", 3, 4, 1, 4);
        oddsAre(even, "ox", 1, 8, 7, 8);
        oddsAre(even, "oxx", 1, 4, 3, 4);
        oddsAre(even, "xxx", 3, 4, 1, 4);
        // a surely loses or surely wins by CHANCE alone
        oddsAre("a 6;b 0", "", 1, 1, 0, 1);
        oddsAre("a 66666;b 00000", "", 1, 1, 0, 1);
        // by what stands, whatever its CHANCE was
        oddsAre("a 6;b 0", "ox", 0, 1, 1, 1);
        oddsAre("a 6;b 0", "o", 1, 1, 0, 1);
        // nobody: both 0 by 1
        oddsAre("a 6;b 6", "", 0, 1, 0, 1);
        oddsAre("a 6;b 6", "x", 0, 1, 0, 1);
        oddsAre("a 6;b 6", "o", 0, 1, 1, 1);
        oddsAre("a 6;b 6", "xxxx", 0, 1, 0, 1);
        oddsAre("a 6;b 6", "xxxxo", 0, 1, 1, 1);
        oddsAre("a 6;b 6", "xxxxx", 0, 1, 0, 1);
        oddsAre("a 0;b 0", "xxx", 1, 1, 0, 1);
        // what is not never OVER is won by one of both, from each of the REGULAR KICKS on
        for (int n = 1; n <= 5; n++) {
            KickOdds x = Check.of("a 43251".substring(0, n + 2) + ";b 34125".substring(0, n + 3) + ";behind b 1;order 3");
            for (int k = 0; k < 2 * n + 3; k++) {
                check.due("both together, " + n + " shooters, kick " + k, x.odds(0, 1), x.odds(0, 0) + x.odds(1, 0));
                check.due("of as many", x.odds(0, 1), x.odds(1, 1));
                x.kick(true);
            }
        }
    }

    private static void oddsNone() {
        check.says(14, "NONE.");
        for (int none : NO_SIDE) {
            check.stays("side " + none, -1, "a 4;b 3", "x", x -> x.odds(none, 0));
            check.stays("side " + none, -1, "a 4;b 3", "xo", x -> x.odds(none, 1));
        }
        for (int none : NO_PART) {
            check.stays("what " + none, -1, "a 4;b 3", "x", x -> x.odds(0, none));
            check.stays("what " + none, -1, "a 4;b 3", "xo", x -> x.odds(1, none));
        }
        check.stays("no SIDES", -1, "", "", x -> x.odds(0, 0));
        check.stays("no SIDES", -1, "", "", x -> x.odds(1, 1));
    }

    // ---- 15

    private static void mattersIs(String sides, String kicks, long up, long low) {
        KickOdds x = at(sides, kicks);
        check.fraction(sides + " behind " + kicks, up, low, x.matters(0), x.matters(1));
    }

    private static void matters() {
        check.says(15, "ODDS of whose turn it is if his KICK is a goal, less those if it is none");
        mattersIs("a 4;b 3", "", 1, 2);
        mattersIs("a 4;b 3", "x", 1, 3);
        // of b: 1 if a goal, else 1 / 3
        mattersIs("a 4;b 3", "o", 2, 3);
        mattersIs("a 4;b 3", "xx", 1, 2);
        mattersIs("a 4;b 3", "xxo", 2, 3);
        // of b: 2 / 6 + 4 / 6 * 1 / 3 if a goal, else 2 / 6 * 1 / 3
        mattersIs("a 4;b 3;first b", "", 4, 9);
        mattersIs("a 4;b 3;first b", "x", 2, 3);
        // he need not be able to make it
        mattersIs("a 0;b 3", "", 1, 2);
        mattersIs("a 6;b 6", "o", 1, 1);
        mattersIs("a 6;b 6", "x", 0, 1);
        // the last but one and the last of 60, and a 61st that could come
        mattersIs("a 4;b 3", "x".repeat(58), 1, 2);
        mattersIs("a 4;b 3", "x".repeat(59), 1, 3);
        mattersIs("a 4;b 3", "x".repeat(60), 1, 2);
        KickOdds x = Check.of("a 15243;b 34152;behind a -2;ahead b 1;order 3");
        for (int k = 0; k < 9; k++) {
            int side = x.turn(0);
            KickOdds goal = again(x, true);
            KickOdds none = again(x, false);
            BigInteger low = BigInteger.valueOf(goal.odds(side, 1)).multiply(BigInteger.valueOf(none.odds(side, 1)));
            BigInteger up = BigInteger.valueOf(goal.odds(side, 0)).multiply(BigInteger.valueOf(none.odds(side, 1)))
                .subtract(BigInteger.valueOf(none.odds(side, 0)).multiply(BigInteger.valueOf(goal.odds(side, 1))));
            BigInteger g = up.gcd(low);
            check.fraction("kick " + k, up.divide(g).longValueExact(), low.divide(g).longValueExact(), x.matters(0),
                x.matters(1));
            x.kick(k % 4 < 2);
        }
        check.says(15, "(the upper number may be below 0)");
        mattersIs("a 314;b 603;behind a3;behind b3;ahead b-3;order 3", "", -163, 1602);
    }

    /** The same shoot-out with one KICK more. */
    private static KickOdds again(KickOdds x, boolean goal) {
        KickOdds y = Check.of("a 15243;b 34152;behind a -2;ahead b 1;order 3");
        for (int i = 0; i < x.count(1); i++) {
            y.kick(x.made(i) % 10 == 1);
        }
        y.kick(goal);
        return y;
    }

    private static void mattersNothing() {
        check.says(15, "NOTHING: others, it is OVER.");
        for (int none : NO_PART) {
            check.stays("what " + none, NOTHING, "a 4;b 3", "x", x -> x.matters(none));
            check.stays("what " + none + " when OVER", NOTHING, "a 4;b 3", "xo", x -> x.matters(none));
        }
        for (int what = 0; what < 2; what++) {
            int part = what;
            check.stays("OVER", NOTHING, "a 4;b 3", "xo", x -> x.matters(part));
            check.stays("OVER amid a ROUND", NOTHING, "a 44;b 33", "xox", x -> x.matters(part));
            check.stays("OVER behind a SUDDEN ROUND", NOTHING, "a 4;b 3", "xxox", x -> x.matters(part));
            check.stays("no SIDES", NOTHING, "", "", x -> x.matters(part));
        }
    }

    // ---- 16

    private static void oddsBy() {
        check.says(16, "ODDS of a SIDE AT THE START by an ORDER, and a SIDE that is FIRST.");
        String sides = "a 1524;b 3415;behind a -2;ahead b 1";
        for (int order = 0; order < 4; order++) {
            for (int first = 0; first < 2; first++) {
                KickOdds told = Check.of(sides + ";order " + order + ";first " + (first == 0 ? "a" : "b"));
                for (String kicks : new String[] {"", "x", "xoxox"}) {
                    KickOdds x = at(sides + ";order 2;first b", kicks);
                    for (int side = 0; side < 2; side++) {
                        check.fraction("by " + order + " " + first, told.odds(side, 0), told.odds(side, 1),
                            x.oddsBy(side, order, first, 0), x.oddsBy(side, order, first, 1));
                    }
                    check.due("ORDER is as it was", 2, x.count(2));
                    check.due("FIRST is as it was", 1, x.count(3));
                }
            }
        }
        check.says(16, "NONE.");
        for (int none : NO_SIDE) {
            check.stays("side " + none, -1, sides, "x", x -> x.oddsBy(none, 0, 0, 0));
            check.stays("first " + none, -1, sides, "x", x -> x.oddsBy(0, 0, none, 0));
        }
        for (int none : NO_ORDER) {
            check.stays("order " + none, -1, sides, "x", x -> x.oddsBy(0, none, 0, 0));
        }
        for (int none : NO_PART) {
            check.stays("what " + none, -1, sides, "x", x -> x.oddsBy(0, 0, 0, none));
        }
        check.stays("no SIDES", -1, "", "", x -> x.oddsBy(0, 0, 0, 0));
        check.stays("no SIDES", -1, "", "", x -> x.oddsBy(1, 3, 1, 1));
    }

    // ---- 17

    private static void unfair() {
        check.says(17, "How much (the size) ODDS of both differ AT THE START by an ORDER.");
        KickOdds x = Check.of("a 4;b 3");
        check.fraction("more of a", 1, 3, x.unfair(0, 0), x.unfair(0, 1));
        x = Check.of("a 3;b 4");
        check.fraction("more of b", 1, 3, x.unfair(3, 0), x.unfair(3, 1));
        x = Check.of("a 3;b 3");
        check.fraction("alike", 0, 1, x.unfair(1, 0), x.unfair(1, 1));
        x = Check.of("a 6;b 0");
        check.fraction("all of it", 1, 1, x.unfair(2, 0), x.unfair(2, 1));
        x = Check.of("a 6;b 6");
        check.fraction("nobody's", 0, 1, x.unfair(2, 0), x.unfair(2, 1));
        x = Check.of("a 3;b 3;behind b -1");
        check.fraction("a is FIRST", 1, 7, x.unfair(0, 0), x.unfair(0, 1));
        x.first(1);
        check.fraction("b is FIRST", 0, 1, x.unfair(0, 0), x.unfair(0, 1));
        x = at("a 4;b 3;order 1", "o");
        check.fraction("AT THE START", 1, 3, x.unfair(0, 0), x.unfair(0, 1));
        check.due("ORDER is as it was", 1, x.count(2));
        check.says(17, "NONE.");
        for (int none : NO_ORDER) {
            check.stays("order " + none, -1, "a 4;b 3", "x", y -> y.unfair(none, 0));
        }
        for (int none : NO_PART) {
            check.stays("what " + none, -1, "a 4;b 3", "x", y -> y.unfair(3, none));
        }
        check.stays("no SIDES", -1, "", "", y -> y.unfair(0, 0));
        check.stays("no SIDES", -1, "", "", y -> y.unfair(3, 1));
    }

    // ---- 18

    /** The orders that are at the least are told as digits, - for others: found by trying, held against unfair(). */
    private static void fairestIs(String least, String sides) {
        KickOdds x = Check.of(sides);
        int want = -1;
        for (int k = 3; k >= 0; k--) {
            want = least.charAt(k) == '-' ? want : k;
        }
        check.due(sides, want, x.fairest());
        for (int k = 0; k < 4; k++) {
            int more = compare(x.unfair(k, 0), x.unfair(k, 1), x.unfair(want, 0), x.unfair(want, 1));
            check.due(sides + " by " + k, least.charAt(k) == '-', more > 0);
            check.due(sides + " by " + k + " is not below", true, more >= 0);
        }
        x.order(3 - want);
        x.kick(true);
        check.due(sides + " whatever stands", want, x.fairest());
    }

    private static void fairest() {
        check.says(18, "The ORDER by which they differ the least, the first.");
        fairestIs("0---", "a 10;b 46;ahead a 1");
        fairestIs("-1--", "a 313;b 053;ahead a 3");
        fairestIs("--2-", "a 046;b 403;ahead b 2");
        fairestIs("---3", "a 6540;b 2243;ahead a 1");
        fairestIs("0123", "a 4;b 6");
        fairestIs("0123", "a 6;b 6");
        fairestIs("-123", "a 35;b 15;ahead a 3");
        fairestIs("--23", "a 523;b 505;ahead a 2");
        fairestIs("-1-3", "a 622;b 403;behind b 2");
        fairestIs("-12-", "a 13;b 30;ahead b 2");
        fairestIs("0--3", "a 03;b 43;ahead b 2");
        fairestIs("0-2-", "a 3420;b 6006;ahead a 1");
        fairestIs("01--", "a 660;b 564;ahead a 3");
        check.says(18, "NONE.");
        check.stays("no SIDES", -1, "", "", KickOdds::fairest);
    }

    // ---- 19

    private static void toss() {
        check.says(19, "Whether a SIDE has more ODDS AT THE START by an ORDER, if it is FIRST: 0, if it is not: 1, alike: 2.");
        for (int order = 0; order < 4; order++) {
            for (int side = 0; side < 2; side++) {
                String who = order + " of " + side;
                check.due("who is behind kicks worse, by " + who, 0, Check.of("a 3;b 3;behind a -1;behind b -1").toss(side, order));
                check.due("who is behind kicks better, by " + who, 1, Check.of("a 3;b 3;behind a 1;behind b 1").toss(side, order));
                check.due("no nerves, by " + who, 2, Check.of("a 4;b 1").toss(side, order));
                check.due("nobody wins, by " + who, 2, Check.of("a 6;b 6").toss(side, order));
                KickOdds x = at("a 3;b 3;behind a -1;behind b -1;first b", "xo");
                check.due("AT THE START, whoever is FIRST, by " + who, 0, x.toss(side, order));
                check.due("FIRST is as it was", 1, x.count(3));
            }
        }
        check.says(19, "NONE.");
        for (int none : NO_SIDE) {
            check.stays("side " + none, -1, "a 4;b 3", "x", x -> x.toss(none, 0));
        }
        for (int none : NO_ORDER) {
            check.stays("order " + none, -1, "a 4;b 3", "x", x -> x.toss(0, none));
        }
        check.stays("no SIDES", -1, "", "", x -> x.toss(0, 0));
        check.stays("no SIDES", -1, "", "", x -> x.toss(1, 3));
    }

    // ---- 20

    private static void endsAre(String sides, long... want) {
        KickOdds x = Check.of(sides);
        for (int k = 0; k < want.length; k++) {
            check.due(sides + " ends(" + k + ")", want[k], x.ends(k));
        }
        check.due(sides + " ends at 2 n", 2 * x.count(0) + 1, want.length);
    }

    private static void ends() {
        check.says(20, "WAYS in which it is OVER just behind KICK k (1 .. 2 n) of REGULAR ones");
        endsAre("a 3;b 3", 18, 0, 18);
        endsAre("a 6;b 0", 0, 0, 36);
        endsAre("a 66;b 00", 0, 0, 0, 1296, 0);
        // a none, b surely: 0 : 1, a none again: 0 : 1 with none left
        endsAre("a 00;b 66", 0, 0, 0, 1296, 0);
        endsAre("a 00;b 66;first b", 0, 0, 0, 1296, 0);
        // b leads ROUND 1 and makes it 0 : 2 with one left of a
        endsAre("a 00;b 66;order 1", 0, 0, 0, 1296, 0);
        endsAre("a 000;b 666", 0, 0, 0, 0, 46656, 0, 0);
        endsAre("a 66;b 30", 0, 0, 0, 648, 648);
        endsAre("a 66666;b 00000", 0, 0, 0, 0, 0, 0, 60466176, 0, 0, 0, 0);
        check.says(20, "k 0: in none of them.");
        endsAre("a 6;b 6", 36, 0, 0);
        endsAre("a 66666;b 66666", 60466176, 0, 0, 0, 0, 0, 0, 0, 0, 0, 0);
        endsAre("a 4;b 3", 18, 0, 18);
        KickOdds x = at("a 66;b 30", "oxo");
        check.due("AT THE START", 648, x.ends(4));
        check.says(20, "NONE.");
        for (int k : new int[] {-1, 3, 4, 11, MIN, MAX}) {
            check.stays("k " + k, -1, "a 3;b 3", "x", y -> y.ends(k));
        }
        check.stays("k 11 of 10", -1, "a 12345;b 12345", "x", y -> y.ends(11));
        check.stays("k 10 of 10", 0, "a 66666;b 66666", "x", y -> y.ends(10));
        check.stays("no SIDES", -1, "", "", y -> y.ends(0));
        check.stays("no SIDES", -1, "", "", y -> y.ends(1));
    }

    // ---- 21

    private static void score() {
        check.says(21, "WAYS in which the goals are x of a, y of b when it is OVER in REGULAR ROUNDS, or behind these (0 .. n each).");
        KickOdds x = Check.of("a 4;b 3");
        check.due("0 : 0", 2 * 3, x.score(0, 0));
        check.due("0 : 1", 2 * 3, x.score(0, 1));
        check.due("1 : 0", 4 * 3, x.score(1, 0));
        check.due("1 : 1", 4 * 3, x.score(1, 1));
        check.due("0 : 0, asked again", 2 * 3, x.score(0, 0));
        check.due("1 : 1, asked again", 4 * 3, x.score(1, 1));
        // OVER at 2 : 0: what the last KICK would be does not count
        x = Check.of("a 66;b 06");
        check.due("2 : 0", 1296, x.score(2, 0));
        check.due("2 : 1", 0, x.score(2, 1));
        x = Check.of("a 66666;b 66666");
        check.due("5 : 5", 60466176, x.score(5, 5));
        check.due("0 : 5", 0, x.score(0, 5));
        check.due("5 : 0", 0, x.score(5, 0));
        x = at("a 66;b 30", "oxo");
        check.due("AT THE START", 648, x.score(2, 1));
        check.says(21, "NONE.");
        for (int none : new int[] {-1, 3, 4, 6, MIN, MAX}) {
            check.stays("x " + none, -1, "a 66;b 30", "x", y -> y.score(none, 0));
            check.stays("y " + none, -1, "a 66;b 30", "x", y -> y.score(0, none));
        }
        check.stays("6 of 5", -1, "a 66666;b 66666", "x", y -> y.score(6, 5));
        check.stays("6 of 5", -1, "a 66666;b 66666", "x", y -> y.score(5, 6));
        check.stays("no SIDES", -1, "", "", y -> y.score(0, 0));
    }

    // ---- 22

    private static void likely() {
        check.says(22, "The score with the most WAYS, the least by x, then y: 10 x and y.");
        check.due("4 : 2 of 6 by 1 : 1", 11, Check.of("a 4;b 4").likely());
        check.due("0 : 0", 0, Check.of("a 2;b 2").likely());
        check.due("0 : 1", 1, Check.of("a 2;b 4").likely());
        check.due("1 : 0", 10, Check.of("a 4;b 2").likely());
        check.due("5 : 5", 55, Check.of("a 66666;b 66666").likely());
        check.due("3 : 0", 30, Check.of("a 66666;b 00000").likely());
        check.due("0 : 3", 3, Check.of("a 00000;b 66666").likely());
        check.due("all alike", 0, Check.of("a 3;b 3").likely());
        check.due("0 : 1 and 1 : 1 are alike: the least by x", 1, Check.of("a 3;b 6").likely());
        check.due("1 : 0 and 1 : 1 are alike: then by y", 10, Check.of("a 6;b 3").likely());
        check.due("0 : 0 and 1 : 0 are alike", 0, Check.of("a 3;b 0").likely());
        // 0 : 1 and 1 : 0, 9 ways each of 36 as 0 : 0 and 1 : 1, but b behind never scores: 1 : 0 has 18
        check.due("1 : 0 by nerves", 10, Check.of("a 3;b 3;behind b -3").likely());
        check.due("AT THE START", 10, at("a 4;b 2", "ox").likely());
        check.says(22, "NONE.");
        check.stays("no SIDES", -1, "", "", KickOdds::likely);
    }

    // ---- 23

    private static void meanIs(String sides, long up, long low) {
        KickOdds x = Check.of(sides);
        check.fraction(sides, up, low, x.mean(0), x.mean(1));
    }

    private static void mean() {
        check.says(23, "Of WAYS all REGULAR KICKS that are made, together, by how many WAYS there are (a FRACTION).");
        meanIs("a 3;b 3", 2, 1);
        meanIs("a 6;b 6", 2, 1);
        meanIs("a 66;b 00", 3, 1);
        meanIs("a 66;b 30", 7, 2);
        // b's first is a goal in 1 of 6: then 4, else 3
        meanIs("a 66;b 10", 19, 6);
        meanIs("a 66666;b 00000", 6, 1);
        meanIs("a 66666;b 66666", 10, 1);
        meanIs("a 00000;b 00000", 10, 1);
        KickOdds x = at("a 66;b 30", "oxo");
        check.fraction("AT THE START", 7, 2, x.mean(0), x.mean(1));
        x = Check.of("a 14325;b 52341;ahead a 1;behind b -2;order 3");
        long kicks = 10 * x.ends(0);
        for (int k = 1; k <= 10; k++) {
            kicks += k * x.ends(k);
        }
        check.due("by ends()", 0, compare(x.mean(0), x.mean(1), kicks, 60466176));
        check.says(23, "NONE.");
        for (int none : NO_PART) {
            check.stays("what " + none, -1, "a 4;b 3", "x", y -> y.mean(none));
        }
        check.stays("no SIDES", -1, "", "", y -> y.mean(0));
        check.stays("no SIDES", -1, "", "", y -> y.mean(1));
    }

    // ---- 24

    private static void needsAre(String sides, String kicks, int a, int b) {
        KickOdds x = at(sides, kicks);
        check.due(sides + " behind " + kicks + ", a", a, x.needs(0));
        check.due(sides + " behind " + kicks + ", b", b, x.needs(1));
    }

    private static void needs() {
        check.says(24, "The fewest goals that a SIDE must make NOW in its REGULAR KICKS that are left, so that it wins in these");
        String three = "a 333;b 333";
        // b may come to 2, a has 1 and two left
        needsAre(three, "xo", 2, -2);
        // 1 : 0, one left each: a by one, b not
        needsAre(three, "xooo", 1, -2);
        needsAre(three, "ooxo", 1, -2);
        needsAre(three, "ooox", -2, 1);
        // 1 : 0, a has none left, b one: b would be level at most
        needsAre(three, "xoooo", -2, -2);
        // 0 : 0, a has none left, b one: by that one
        needsAre(three, "ooooo", -2, 1);
        // 1 : 1, a kicked its second in vain: b has two left, a one: b by both
        needsAre(three, "xxo", -2, 2);
        needsAre("a 333;b 333;first b", "xxo", 2, -2);
        // 1 : 0 and b has 1 kick more
        needsAre("a 33333;b 33333", "xo", 4, -2);
        // SKILLS do not matter, only what the other one could do
        needsAre("a 000;b 000", "xo", 2, -2);
        check.says(24, "whatever the other one does");
        needsAre("a 333;b 000", "xo", 2, -2);
        check.says(24, "-2: not by all");
        needsAre(three, "", -2, -2);
        needsAre(three, "x", -2, -2);
        needsAre(three, "xx", -2, -2);
        needsAre("a 3;b 3", "", -2, -2);
        needsAre("a 3;b 3", "o", -2, 1);
        needsAre("a 3;b 3", "x", -2, -2);
    }

    private static void needsNone() {
        check.says(24, "NONE (SUDDEN NOW, OVER, too).");
        for (int side = 0; side < 2; side++) {
            int who = side;
            check.stays("SUDDEN", -1, "a 3;b 3", "xx", x -> x.needs(who));
            check.stays("amid SUDDEN", -1, "a 3;b 3", "xxo", x -> x.needs(who));
            check.stays("SUDDEN of three", -1, "a 333;b 333", "oooooo", x -> x.needs(who));
            check.stays("OVER", -1, "a 3;b 3", "xo", x -> x.needs(who));
            check.stays("OVER in REGULAR ROUNDS", -1, "a 333;b 333", "xoxo", x -> x.needs(who));
            check.stays("OVER amid one", -1, "a 33;b 33", "xox", x -> x.needs(who));
            check.stays("OVER behind SUDDEN", -1, "a 3;b 3", "xxxo", x -> x.needs(who));
            check.stays("no SIDES", -1, "", "", x -> x.needs(who));
        }
        for (int none : NO_SIDE) {
            check.stays("side " + none, -1, "a 333;b 333", "xo", x -> x.needs(none));
        }
    }
}
