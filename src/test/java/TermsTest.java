import java.math.BigInteger;
import java.util.List;

/** The boundary cases that the document's "Terms" and the words below them name, sentence by sentence. */
public final class TermsTest {
    private static final int NOTHING = Integer.MIN_VALUE;
    private static final String FULL = "a 3;b 4;behind a -2;ahead b 1;order 2;first b";
    private static final Check check = new Check("TermsTest");

    public static void main(String[] args) {
        shooters();
        numbers();
        lines();
        words();
        tokens();
        faults();
        tooEarly();
        chance();
        goalInSix();
        shooterOfRound();
        leaders();
        over();
        overEverywhere();
        sixty();
        nobody();
        fractions();
        atTheStart();
        atTheStartByActs();
        ways();
        rows();
        acts();
        latestTwenty();
        teamsDone();
        refusedText();
        refusedOrder();
        refusedChangesNothing();
        noneOfAsking();
        check.finish();
    }

    private static void ok(int n, String text) {
        check.due("teams of " + text, n, Check.teams(new KickOdds(), text));
    }

    private static void fault(int at, String text) {
        check.due("teams of " + text, -1000 - at, Check.teams(new KickOdds(), text));
    }

    // ---- Terms 1

    private static void shooters() {
        check.term(1, "each has n SHOOTERS 0 .. n - 1 (n 1 .. 5, of both as many)");
        for (int n = 1; n <= 5; n++) {
            KickOdds x = new KickOdds();
            check.due("teams", n, Check.teams(x, "a" + "12345".substring(0, n) + ";b" + "65432".substring(0, n)));
            check.due("count(0)", n, x.count(0));
            for (int i = 0; i < 6; i++) {
                check.due("of a " + i, i < n ? 1 + i : NOTHING, x.side(0, 10 + i));
                check.due("of b " + i, i < n ? 6 - i : NOTHING, x.side(1, 10 + i));
            }
        }
        fault(2, "a ;b ");
        fault(1, "a;b");
        fault(6, "a111111;b111111");
    }

    private static void numbers() {
        check.term(1, "SKILL 0 .. 6 each");
        for (int d = 0; d <= 9; d++) {
            if (d <= 6) {
                KickOdds x = Check.of("a " + d + ";b " + (6 - d));
                check.due("SKILL " + d, d, x.side(0, 10));
                check.due("SKILL " + (6 - d), 6 - d, x.side(1, 10));
            } else {
                fault(2, "a " + d + ";b 3");
                fault(6, "a 3;b " + d);
                fault(5, "a0123" + d + ";b 3");
            }
        }
        check.term(1, "BEHIND, AHEAD -3 .. 3 (0 at first)");
        for (int what = 0; what < 2; what++) {
            String word = what == 0 ? "behind" : "ahead";
            for (int side = 0; side < 2; side++) {
                String line = "a3;b3;" + word + (side == 0 ? " a" : " b");
                for (int v = -3; v <= 3; v++) {
                    KickOdds x = Check.of(line + v);
                    for (int at = 0; at < 4; at++) {
                        check.due(line + v + " side", at / 2 == side && at % 2 == what ? v : 0, x.side(at / 2, at % 2));
                    }
                }
                for (int v = 4; v <= 9; v++) {
                    fault(line.length(), line + v);
                    fault(line.length() + 1, line + "-" + v);
                }
            }
        }
        check.term(1, "ORDER 0 .. 3 (0 at first)");
        check.due("at first", 0, Check.of("a3;b3").count(2));
        for (int d = 0; d <= 9; d++) {
            if (d <= 3) {
                check.due("ORDER " + d, d, Check.of("a3;b3;order " + d).count(2));
            } else {
                fault(12, "a3;b3;order " + d);
            }
        }
        check.term(1, "FIRST: a side (a at first)");
        check.due("at first", 0, Check.of("a3;b3").count(3));
        check.due("a", 0, Check.of("a3;b3;first a").count(3));
        check.due("b", 1, Check.of("a3;b3;first b").count(3));
    }

    private static String padded(String text, int length) {
        StringBuilder b = new StringBuilder(text);
        while (b.length() < length) {
            b.append(' ');
        }
        return b.toString();
    }

    private static void lines() {
        check.term(1, "THE TEXT (200 signs at most)");
        ok(1, padded("a3;b3", 200));
        ok(1, padded("", 195) + "a3;b3");
        fault(199, padded("a3;b3", 199) + "x");
        fault(200, padded("a3;b3;", 200));
        fault(200, padded("a3", 200));
        fault(200, padded("", 200));
        check.term(1, "LINE {; LINE}");
        fault(0, "");
        fault(0, ";");
        fault(0, ";a3;b3");
        fault(3, "a3;;b3");
        fault(6, "a3;b3;");
        fault(2, "a3,b3");
        fault(3, "a3 b3");
        check.term(1, "each word once at most, in any row");
        fault(6, "a3;b3;a3");
        fault(6, "b3;a3;b3");
        fault(8, "order 1;order 1;a3;b3");
        fault(8, "first a;first b;a3;b3");
        fault(17, "behind a0;behind a0;a3;b3");
        fault(16, "ahead b 0;ahead b0;a3;b3");
        String[] all = {"a 12", "b 34", "behind a-1", "behind b 2", "ahead a 3", "ahead b-3", "order 3", "first b"};
        for (int from = 0; from < 16; from++) {
            StringBuilder b = new StringBuilder();
            for (int i = 0; i < 8; i++) {
                int at = from < 8 ? (from + i) % 8 : (from + 8 - i) % 8;
                b.append(i > 0 ? ";" : "").append(all[at]);
            }
            KickOdds x = Check.of(b.toString());
            check.due("skills", 1234, x.side(0, 10) * 1000 + x.side(0, 11) * 100 + x.side(1, 10) * 10 + x.side(1, 11));
            check.due("behind a", -1, x.side(0, 0));
            check.due("behind b", 2, x.side(1, 0));
            check.due("ahead a", 3, x.side(0, 1));
            check.due("ahead b", -3, x.side(1, 1));
            check.due("order", 3, x.count(2));
            check.due("first", 1, x.count(3));
        }
    }

    private static void words() {
        check.term(1, "a D {D} | b D {D}");
        fault(1, "a;b3");
        fault(1, "a");
        fault(4, "a3;b;");
        fault(1, "a-1;b1");
        fault(2, "a x;b1");
        ok(3, "a 1 2 3;b123");
        check.term(1, "behind SIDE N | ahead SIDE N");
        fault(12, "a3;b3;behind");
        fault(12, "a3;b3;behind;");
        fault(13, "a3;b3;behind ;");
        fault(14, "a3;b3;behind a;");
        fault(13, "a3;b3;ahead b;");
        fault(13, "a3;b3;behind x 1");
        fault(12, "a3;b3;ahead behind");
        fault(14, "a3;b3;ahead a b 1");
        check.term(1, "(SKILLS, single digits; both must be told, of as many)");
        ok(2, "a12;b 1 2");
        fault(3, "a12.5;b11");
        fault(4, "a 12", "order 1");
        check.term(1, "(once for each side; N: a digit 0 .. 3, a - ahead or not)");
        ok(1, "a3;b3;behind a 1;behind b 1;ahead a 1;ahead b 1");
        ok(1, "a3;b3;behind a - 1");
        check.due("minus nothing", 0, Check.of("a3;b3;behind a -0").side(0, 0));
        fault(14, "a3;b3;behind a+1");
        fault(15, "a3;b3;behind a--1");
        fault(15, "a3;b3;behind a1-");
        fault(15, "a3;b3;behind a11");
        fault(16, "a3;b3;behind a1 2");
        fault(13, "a3;b3;behind -1");
        fault(12, "a3;b3;ahead 1");
        check.term(1, "order D | first SIDE. SIDE: a or b");
        fault(12, "a3;b3;order -0");
        fault(12, "a3;b3;order a");
        fault(13, "a3;b3;order 12");
        fault(12, "a3;b3;first 0");
        fault(12, "a3;b3;first c");
        fault(12, "a3;b3;first order");
        fault(13, "a3;b3;behind c 1");
        fault(14, "a3;b3;first a b");
    }

    private static void fault(int at, String line, String more) {
        fault(at + 1 + more.length(), line + ";" + more);
    }

    private static void tokens() {
        check.term(1, "TOKENS, the longest that can be: rows of letters a .. z, single other signs");
        fault(0, "ab3;b3");
        fault(0, "aa3;b3");
        fault(0, "az3;b3");
        fault(0, "za3;b3");
        fault(3, "a3;bb3");
        fault(6, "a3;b3;orderz 1");
        fault(6, "a3;b3;behinda 1");
        fault(6, "a3;b3;firstb");
        fault(12, "a3;b3;first ab");
        fault(6, "a3;b3;orders 1");
        fault(6, "a3;b3;orde r1");
        ok(1, "a3;b3;order1;first a;behind b-1");
        fault(0, "A3;b3");
        fault(6, "a3;b3;First a");
        fault(0, "{3;b3");
        fault(0, "`3;b3");
        check.term(1, "blanks (32) may stand between, ahead, behind");
        ok(1, "   a   3   ;   b   3   ;   behind   a   -   1   ;   order   1   ;   first   b   ");
        for (int sign : new int[] {0, 9, 10, 13, 31, 33, 127, 160, 255}) {
            fault(0, (char) sign + "a3;b3");
            fault(1, "a" + (char) sign + "3;b3");
            fault(2, "a3" + (char) sign + ";b3");
            fault(5, "a3;b3" + (char) sign);
        }
    }

    private static void faults() {
        check.term(1, "FAULT, the first TOKEN (its first sign) that can't stand there");
        fault(5, "a3;  behindx a 1;zzz");
        fault(4, "a 3 behind a 1;b3;a3");
        fault(1, "a7;b7;c7");
        check.term(1, "what is none of these");
        fault(3, "a3;z3");
        fault(6, "a3;b3;3");
        fault(6, "a3;b3;x");
        check.term(1, "a word told already");
        fault(3, "a3;a3;b3");
        fault(6, "a3;b3;b4");
        fault(14, "a3;b3;order 0;order 0");
        fault(14, "a3;b3;first a;first a");
        fault(6, "a3;b3;a");
        check.term(1, "(of behind, ahead: the SIDE at which it is the second time)");
        fault(23, "a3;b3;behind a1;behind a1");
        fault(23, "a3;b3;behind b1;behind b1");
        fault(21, "a3;b3;ahead a1;ahead a1");
        fault(21, "a3;b3;ahead b1;ahead b1");
        fault(33, "a3;b3;behind a1;behind b1;behind b1");
        fault(33, "a3;b3;behind a1;behind b1;behind a1");
        ok(1, "a3;b3;behind a1;ahead a1;behind b1;ahead b1");
        check.term(1, "a digit out of bounds");
        fault(1, "a7;b3");
        fault(3, "a127;b3");
        fault(14, "a3;b3;behind a4");
        fault(15, "a3;b3;ahead a -4");
        fault(11, "a3;b3;order4");
        check.term(1, "a 6th SKILL");
        ok(5, "a12345;b12345");
        fault(6, "a123456;b12345");
        fault(14, "a12345;b12345 6");
        fault(6, "a123457");
        fault(11, "a 1 2 3 4 56");
    }

    private static void tooEarly() {
        check.term(1, "the length, if it ends too early");
        // where a row of letters is cut it is another token, and that one is at fault
        int[] starts = {8, 20, 30, 38};
        String[] cutWords = {"behind", "ahead", "order", "first"};
        for (int length = 0; length < FULL.length(); length++) {
            int at = length;
            for (int w = 0; w < 4; w++) {
                boolean cut = length > starts[w] && length < starts[w] + cutWords[w].length();
                // the a of ahead alone is the word a, told already, and at fault at the same place
                at = cut ? starts[w] : at;
            }
            boolean sound = length == 7 || length == 19 || length == 29 || length == 37;
            check.due("the first " + length + " signs", sound ? 1 : -1000 - at,
                Check.teams(new KickOdds(), FULL.substring(0, length)));
        }
        ok(1, FULL);
        fault(16, "a3;b3;behind a  ");
        fault(16, "a3;b3;behind a -");
        fault(8, "a3;b3;  ");
        check.term(1, "if a or b is not told");
        fault(2, "a3");
        fault(2, "b3");
        fault(4, "b3  ");
        fault(7, "order 1");
        fault(10, "a3;order 1");
        fault(10, "first b;b3");
        check.term(1, "if they are of unlike many");
        fault(6, "a12;b1");
        fault(6, "a1;b12");
        fault(10, "a12345;b12", "    ");
        fault(13, "a1234;b12345 ");
        fault(12, "a12;order1;b");
        fault(13, "a12;order1;b1");
        // a token that can't stand there is nearer than the length
        fault(7, "a12;b1;c");
    }

    // ---- Terms 2

    private static void chanceIs(String sides, String kicks, int chance) {
        KickOdds x = Check.of(sides);
        Check.play(x, kicks);
        check.due(sides + " behind " + kicks + " chance", chance, x.turn(3));
    }

    private static void chance() {
        check.term(2, "BEHIND of his side more if d is below 0, AHEAD of his side if d is above 0");
        String sides = "a 3333;b 2222;behind a 1;ahead a 2;behind b -1;ahead b -2";
        chanceIs(sides, "", 3);
        chanceIs(sides, "o", 2);
        chanceIs(sides, "x", 1);
        chanceIs(sides, "xo", 5);
        chanceIs(sides, "xoo", 1);
        chanceIs(sides, "xox", 1);
        chanceIs(sides, "ox", 4);
        chanceIs(sides, "oxo", 0);
        chanceIs(sides, "oxx", 2);
        chanceIs(sides, "xx", 3);
        chanceIs(sides, "xxx", 1);
        // 2 more or 2 fewer are no more than 1
        chanceIs(sides, "xoxx", 5);
        chanceIs(sides, "oxox", 4);
        check.term(2, "put to 0 .. 6");
        chanceIs("a 33;b 33;behind b -3", "x", 0);
        chanceIs("a 33;b 22;behind b -3", "x", 0);
        chanceIs("a 33;b 44;behind b -3", "x", 1);
        chanceIs("a 33;b 00;behind b -3", "x", 0);
        chanceIs("a 33;b 33;behind b 3", "x", 6);
        chanceIs("a 33;b 44;behind b 3", "x", 6);
        chanceIs("a 33;b 66;behind b 3", "x", 6);
        chanceIs("a 33;b 22;behind b 3", "x", 5);
        chanceIs("a 55;b 33;ahead a 3", "xo", 6);
        chanceIs("a 22;b 33;ahead a -3", "xo", 0);
        chanceIs("a 00;b 66", "", 0);
        chanceIs("a 00;b 66", "o", 6);
    }

    private static void goalInSix() {
        check.term(2, "it is a goal in CHANCE of 6");
        for (int c = 0; c <= 6; c++) {
            KickOdds x = Check.of("a 6;b " + c);
            check.due("a's by none, " + c, 36 - 6 * c, x.score(1, 0));
            check.due("level by a goal, " + c, 6 * c, x.score(1, 1));
            x = Check.of("a 0;b " + c);
            check.due("b's by a goal, " + c, 6 * c, x.score(0, 1));
        }
    }

    private static void shooterOfRound() {
        check.term(2, "ROUNDS 0, 1 ..: of each side one KICK, of SHOOTER (the ROUND modulo n)");
        String skills = "01234";
        for (int n = 1; n <= 5; n++) {
            KickOdds x = Check.of("a" + skills.substring(0, n) + ";b" + skills.substring(0, n));
            for (int k = 0; k < 60; k++) {
                check.due(n + " shooters, round of kick " + k, k / 2, x.turn(1));
                check.due(n + " shooters, shooter of kick " + k, k / 2 % n, x.turn(2));
                check.due(n + " shooters, chance of kick " + k, k / 2 % n, x.turn(3));
                check.due(n + " shooters, side of kick " + k, k % 2, x.turn(0));
                x.kick(k / 2 % 3 == 0);
            }
        }
    }

    private static void turns(String sides, String kicks, String want) {
        KickOdds x = Check.of(sides);
        StringBuilder got = new StringBuilder();
        for (int i = 0; i < kicks.length(); i++) {
            got.append((char) ('a' + x.turn(0)));
            x.kick(kicks.charAt(i) == 'x');
        }
        check.due(sides + " " + kicks + " by " + got + ", due is " + want, true, want.contentEquals(got));
    }

    private static void leaders() {
        String five = "a 33333;b 33333;";
        check.term(2, "0: FIRST");
        turns(five + "order 0", "oooooooooo", "ababababab");
        turns(five + "order 0;first b", "oooooooooo", "bababababa");
        check.term(2, "1: FIRST in even ROUNDS, else the other one");
        turns(five + "order 1", "oooooooooo", "abbaabbaab");
        turns(five + "order 1;first b", "oooooooooo", "baabbaabba");
        check.term(2, "2: FIRST, if the ROUND has an even number of bits that are 1, else the other one");
        turns(five + "order 2", "oooooooooo", "abbabaabba");
        turns(five + "order 2;first b", "oooooooooo", "baababbaab");
        check.term(2, "3: who has fewer goals ahead of the ROUND");
        turns(five + "order 3", "xoo", "abb");
        turns(five + "order 3", "oxoxox", "ababab");
        turns(five + "order 3;first b", "xoxo", "baab");
        // 1 : 0, then 1 : 2: whoever led the ROUND ahead does not matter
        turns(five + "order 3", "xoxoox", "abbaab");
        turns(five + "order 3", "oxoooo", "ababab");
        check.term(2, "if these are alike, the other one than in the ROUND ahead (ROUND 0: FIRST)");
        turns(five + "order 3", "oooooooooo", "abbaabbaab");
        turns(five + "order 3;first b", "xxxxxxxxxx", "baabbaabba");
        // 1 : 0 behind ROUND 0, so b leads; 1 : 1 behind ROUND 1, so a does
        turns(five + "order 3", "xoxoo", "abbaa");
        // 0 : 1, so a leads again; 1 : 1 behind ROUND 1, so b does, not the other one than in ROUND 0
        turns(five + "order 3", "oxxooo", "ababba");
        check.term(2, "ROUNDS from n on (SUDDEN): FIRST");
        for (int order = 0; order <= 3; order++) {
            turns("a 33;b 33;order " + order, "oooooooooooooooo", (order == 0 ? "abab" : "abba") + "abababababab");
            turns("a 3;b 3;first b;order " + order, "ooxxooxxoo", "bababababa");
            turns("a 333;b 333;first b;order " + order, "xxxxxxxxxxxx",
                (order == 0 ? "bababa" : order == 2 ? "baabab" : "baabba") + "bababa");
        }
    }

    private static void overIs(int n, String kicks, int over) {
        KickOdds x = Check.of("a 33333".substring(0, n + 2) + ";b 33333".substring(0, n + 3));
        for (int i = 0; i < kicks.length(); i++) {
            check.due(kicks + " goes on at " + i, 0, x.count(4));
            x.kick(kicks.charAt(i) == 'x');
        }
        check.due(n + " shooters, over behind " + kicks, over, x.count(4));
        check.due(n + " shooters, turn behind " + kicks, over == 1, x.turn(0) == -2);
    }

    private static void over() {
        check.term(2, "in REGULAR ROUNDS as soon as one has more goals more than the other one has KICKS left in them");
        overIs(1, "x", 0);
        overIs(2, "xo", 0);
        overIs(2, "xox", 1);
        overIs(2, "oxo", 1);
        overIs(2, "oxx", 0);
        overIs(2, "ox", 0);
        overIs(3, "xox", 0);
        overIs(3, "xoxo", 1);
        overIs(3, "oxox", 1);
        overIs(3, "oxo", 0);
        overIs(3, "xxoxo", 1);
        overIs(3, "xxoox", 0);
        overIs(5, "xoxox", 0);
        overIs(5, "xoxoxo", 1);
        overIs(5, "oxoxox", 1);
        overIs(5, "oxoxo", 0);
        overIs(5, "oxoxooo", 1);
        overIs(5, "xxxxxxxxx", 0);
        overIs(5, "xxxxxxxxoo", 0);
        overIs(5, "xxxxxxxxox", 1);
        check.term(2, "behind a SUDDEN ROUND, if the goals are not alike");
        overIs(1, "xxx", 0);
        overIs(1, "xxxo", 1);
        overIs(1, "xxox", 1);
        overIs(1, "xxoo", 0);
        overIs(1, "ooxx", 0);
        overIs(1, "ooxxx", 0);
        overIs(3, "ooooooooooox", 1);
        check.term(2, "(behind ROUND n - 1, too)");
        overIs(1, "xo", 1);
        overIs(1, "ox", 1);
        overIs(1, "xx", 0);
        overIs(1, "oo", 0);
        overIs(2, "xxxo", 1);
        overIs(2, "oxxo", 0);
    }

    /** Every row of REGULAR KICKS: OVER is when the one behind would not be level by all that it has left. */
    private static void overEverywhere() {
        check.term(2, "OVER: in REGULAR ROUNDS as soon as one has more goals more than the other one has KICKS left");
        for (int n = 1; n <= 4; n++) {
            for (int order = 0; order <= 3; order++) {
                String sides = "a 3333".substring(0, n + 2) + ";b 3333".substring(0, n + 3) + ";order " + order;
                for (int row = 0; row < 1 << 2 * n; row++) {
                    KickOdds x = Check.of(sides);
                    for (int k = 0; k < 2 * n && x.count(4) == 0; k++) {
                        x.kick((row >> k & 1) == 1);
                        int bestOfA = x.side(0, 2) + n - x.side(0, 3);
                        int bestOfB = x.side(1, 2) + n - x.side(1, 3);
                        boolean caught = x.side(0, 2) <= bestOfB && x.side(1, 2) <= bestOfA;
                        check.due(sides + " row " + row + " kick " + k, caught ? 0 : 1, x.count(4));
                    }
                }
            }
        }
    }

    private static KickOdds level(String sides, int kicks) {
        KickOdds x = Check.of(sides);
        StringBuilder b = new StringBuilder();
        for (int i = 0; i < kicks; i++) {
            b.append('o');
        }
        check.due("level kicks", kicks, Check.play(x, b.toString()));
        return x;
    }

    private static void sixty() {
        check.term(2, "NOW: KICKS that were made, 60 at most");
        KickOdds x = level("a 4;b 3", 59);
        check.due("the 60th", 0, x.kick(false));
        check.due("the 61st", -3, x.kick(false));
        check.due("60", 60, x.count(1));
        check.term(2, "how likely it has more goals when it is OVER (60 or not");
        // a round: 12 of 36 by a, 6 by b
        for (int kicks = 0; kicks <= 60; kicks += 2) {
            x = level("a 4;b 3", kicks);
            check.fraction(kicks + " kicks, a", 2, 3, x.odds(0, 0), x.odds(0, 1));
            check.fraction(kicks + " kicks, b", 1, 3, x.odds(1, 0), x.odds(1, 1));
        }
        for (int kicks = 1; kicks < 60; kicks += 2) {
            x = level("a 4;b 3", kicks);
            check.fraction(kicks + " kicks, a", 1, 3, x.odds(0, 0), x.odds(0, 1));
        }
    }

    private static void nobody() {
        check.term(2, "what is never OVER is won by nobody)");
        for (String sides : new String[] {"a 6;b 6", "a 0;b 0", "a 66666;b 66666", "a 060;b 060", "a 66;b 33;behind b 3"}) {
            KickOdds x = Check.of(sides);
            for (int side = 0; side < 2; side++) {
                check.fraction(sides, 0, 1, x.odds(side, 0), x.odds(side, 1));
            }
            check.fraction(sides + " unfair", 0, 1, x.unfair(0, 0), x.unfair(0, 1));
        }
        // ROUND 1 is led by b, who makes 3 of 6 there; a always scores: 1 of 2 is a's, the rest never OVER
        KickOdds x = Check.of("a 66;b 33;behind b 3;order 1");
        check.fraction("half of it a's", 1, 2, x.odds(0, 0), x.odds(0, 1));
        check.fraction("none of it b's", 0, 1, x.odds(1, 0), x.odds(1, 1));
        check.fraction("unfair by the other half", 1, 2, x.unfair(1, 0), x.unfair(1, 1));
    }

    private static void lowest(String what, long up, long low) {
        long g = BigInteger.valueOf(up).gcd(BigInteger.valueOf(low)).longValueExact();
        check.due(what + " " + up + " by " + low + ": common", 1, g);
        check.due(what + " " + up + " by " + low + ": lower above 0", true, low > 0);
        check.due(what + " 0 by 1", true, up != 0 || low == 1);
    }

    private static void fractions() {
        check.term(2, "FRACTIONS are told in lowest terms, upper number (what 0) and lower one (1)");
        for (String sides : new String[] {"a 2;b 4", "a 4242;b 2424;order 3", "a 66660;b 66660;behind b-3", "a 0;b 6"}) {
            KickOdds x = Check.of(sides);
            for (int k = 0; k < 8; k++) {
                lowest("odds", x.odds(0, 0), x.odds(0, 1));
                lowest("odds", x.odds(1, 0), x.odds(1, 1));
                lowest("oddsBy", x.oddsBy(1, 3, 1, 0), x.oddsBy(1, 3, 1, 1));
                lowest("unfair", x.unfair(2, 0), x.unfair(2, 1));
                lowest("mean", x.mean(0), x.mean(1));
                if (x.count(4) == 0) {
                    lowest("matters", x.matters(0), x.matters(1));
                }
                x.kick(k % 3 == 0);
            }
        }
        KickOdds x = new KickOdds();
        for (int v = 0; v < 343; v++) {
            lowest("guess", x.guess(v / 49, v / 7 % 7, v % 7, 0), x.guess(v / 49, v / 7 % 7, v % 7, 1));
            x = new KickOdds();
            lowest("guess left", x.guess(v / 49, v / 7 % 7, v % 7, 2), x.guess(v / 49, v / 7 % 7, v % 7, 3));
        }
        check.term(2, "0 by 1");
        x = Check.of("a 0;b 6");
        check.fraction("odds", 0, 1, x.odds(0, 0), x.odds(0, 1));
        check.fraction("oddsBy", 0, 1, x.oddsBy(0, 1, 1, 0), x.oddsBy(0, 1, 1, 1));
        check.fraction("oddsOf", 0, 1, x.oddsOf(0, 0, 0), x.oddsOf(0, 0, 1));
        check.fraction("guess", 0, 1, x.guess(0, 0, 3, 0), x.guess(0, 0, 3, 1));
        check.fraction("guess left", 0, 1, x.guess(0, 6, 0, 2), x.guess(0, 6, 0, 3));
        x = Check.of("a 3;b 3");
        check.fraction("unfair", 0, 1, x.unfair(0, 0), x.unfair(0, 1));
        x = Check.of("a 6;b 6");
        x.kick(true);
        check.fraction("matters", 0, 1, x.matters(0), x.matters(1));
    }

    /** All answers that are AT THE START, as one text. */
    private static String start(KickOdds x) {
        StringBuilder b = new StringBuilder();
        for (int order = 0; order < 4; order++) {
            b.append(x.unfair(order, 0)).append('/').append(x.unfair(order, 1)).append(' ');
            for (int side = 0; side < 2; side++) {
                b.append(x.toss(side, order)).append(' ').append(x.oddsBy(side, order, 1, 0)).append(' ');
            }
        }
        for (int k = 0; k <= 2 * x.count(0); k++) {
            b.append(x.ends(k)).append(' ');
        }
        for (int k = 0; k < 16; k++) {
            b.append(x.score(k / 4, k % 4)).append(' ');
        }
        b.append(x.fairest()).append(' ').append(x.likely()).append(' ').append(x.mean(0)).append('/').append(x.mean(1));
        for (int side = 0; side < 2; side++) {
            b.append(' ').append(x.oddsOf(side, 201, 0)).append(' ').append(x.best(side)).append(' ')
                .append(x.climbed(side, 0)).append(' ').append(x.climbed(side, 1)).append(' ').append(x.rests(side));
        }
        b.append(' ').append(x.rests(2)).append(' ').append(Check.judge(x, "xoo")).append(' ').append(x.judged(0))
            .append(' ').append(x.judged(3));
        return b.toString();
    }

    private static void atTheStart() {
        check.term(2, "AT THE START: as if no KICK were made");
        String sides = "a 152;b 432;behind a -1;ahead b 2;order 1;first b";
        String want = start(Check.of(sides));
        String[] told = {"x", "xo", "ooxoo", "oxox", "xxxxxx", "xxxxxxo", "xxxxxxxo"};
        for (String kicks : told) {
            KickOdds x = Check.of(sides);
            Check.play(x, kicks);
            check.due("behind " + kicks, true, want.equals(start(x)));
        }
    }

    /** By acts to what y was told, with answers in between that try other things: each asked alone is as y's. */
    private static void atTheStartByActs() {
        check.term(2, "AT THE START: as if no KICK were made");
        List<Check.Call> asked = List.of(x -> x.ends(4), x -> x.score(2, 1), KickOdds::likely, x -> x.mean(0),
            x -> x.mean(1), KickOdds::fairest, x -> x.unfair(1, 0), x -> x.toss(0, 2), x -> x.oddsBy(1, 2, 0, 0),
            x -> x.oddsOf(0, 120, 0), x -> x.oddsOf(1, 201, 1), x -> x.best(0), x -> x.best(1), x -> x.climbed(0, 0),
            x -> x.climbed(1, 1), x -> x.rests(0), x -> x.rests(1), x -> x.rests(2), x -> Check.judge(x, "xoxo"));
        List<Check.Call> between = List.of(x -> x.drawn(1, 1, 0), x -> x.matters(0), x -> x.oddsBy(0, 3, 1, 0),
            x -> x.oddsOf(0, 210, 0), x -> x.oddsOf(1, 210, 0), x -> Check.judge(x, "xo"), x -> Check.teams(x, "a6;b"));
        String[][] sides = {{"a 152;b 432", ";behind a -1;ahead b 2", "a 125;b 342"},
            {"a 266;b 406", ";behind b -2;ahead a 1", "a 266;b 640"}};
        for (String[] told : sides) {
            for (int i = 0; i < asked.size() * between.size(); i++) {
                Check.Call ask = asked.get(i / between.size());
                KickOdds x = Check.of(told[2] + told[1] + ";order 3;first b");
                x.kick(false);
                between.get(i % between.size()).on(x);
                x.undo();
                x.order(1);
                x.first(0);
                for (int side = 0; side < 2; side++) {
                    for (int at = 0; at < 2; at++) {
                        int want = told[0].charAt(side * 6 + 2 + at) - '0';
                        for (int j = at + 1; j < 3 && x.side(side, 10 + at) != want; j++) {
                            x.exchange(side, at, j);
                        }
                    }
                }
                KickOdds y = Check.of(told[0] + told[1] + ";order 1");
                check.due(told[0] + " ask " + i / between.size() + " behind " + i % between.size(), ask.on(y), ask.on(x));
                check.due("asked again", ask.on(y), ask.on(x));
            }
        }
    }

    private static void ways() {
        check.term(2, "WAYS AT THE START: of 6 to the 2 n ways in which the REGULAR KICKS may come, so many");
        long all = 1;
        for (int n = 1; n <= 5; n++) {
            all *= 36;
            KickOdds x = Check.of("a 14325".substring(0, n + 2) + ";b 52341".substring(0, n + 3) + ";ahead a 1;order 3");
            long byEnds = 0;
            long byScores = 0;
            for (int k = 0; k <= 2 * n; k++) {
                byEnds += x.ends(k);
            }
            for (int at = 0; at < (n + 1) * (n + 1); at++) {
                byScores += x.score(at / (n + 1), at % (n + 1));
            }
            check.due(n + " shooters, by ends", all, byEnds);
            check.due(n + " shooters, by scores", all, byScores);
        }
        check.term(2, "(KICKS behind OVER come any way, 6 each)");
        KickOdds x = Check.of("a 66666;b 00000");
        check.due("3 : 0 behind kick 6 of 10", 60466176, x.ends(6));
        check.due("3 : 0", 60466176, x.score(3, 0));
        x = Check.of("a 66;b 30");
        check.due("3 of 6 behind kick 3 of 4", 648, x.ends(3));
    }

    // ---- Terms 3

    private static void rows() {
        check.term(3, "rows are compared from the first on");
        // all rows are alike to a, so the least by its first, then its second ..
        check.due("best of like ones", 1234, Check.of("a 33333;b 12345").best(0));
        check.due("rests of like ones", 12, Check.of("a 333;b 333").rests(1));
        check.term(3, "Of a row: as if the SHOOTERS were told in it");
        KickOdds x = Check.of("a 156;b 432;behind a 2");
        KickOdds y = Check.of("a 615;b 432;behind a 2");
        check.fraction("row 201", y.odds(0, 0), y.odds(0, 1), x.oddsOf(0, 201, 0), x.oddsOf(0, 201, 1));
        y = Check.of("a 156;b 324;behind a 2");
        check.fraction("row 120 of b", y.odds(1, 0), y.odds(1, 1), x.oddsOf(1, 120, 0), x.oddsOf(1, 120, 1));
        check.term(3, "ODDS are AT THE START");
        Check.play(x, "oxo");
        check.fraction("row 120 of b, later", y.odds(1, 0), y.odds(1, 1), x.oddsOf(1, 120, 0), x.oddsOf(1, 120, 1));
    }

    private static void acts() {
        check.term(3, "Acts: kick(), exchange(), order(), first(), play(), again(), that were done");
        KickOdds x = Check.of("a 12;b 34");
        x.keep(0);
        check.due("keep() is none", 0, x.count(6));
        x.exchange(0, 0, 1);
        check.due("exchange()", 1, x.count(6));
        x.order(0);
        check.due("order() to what it is", 2, x.count(6));
        x.first(0);
        check.due("first() to what it is", 3, x.count(6));
        x.kick(true);
        check.due("kick()", 4, x.count(6));
        Check.play(x, "oo");
        check.due("play() of two", 5, x.count(6));
        x.again(0);
        check.due("again()", 6, x.count(6));
        x.again(0);
        check.due("again() to what it is", 7, x.count(6));
        Check.judge(x, "xo");
        x.drawn(1, 2, 0);
        Check.write(x, "q");
        x.end(0);
        Check.teams(x, "?");
        check.due("judge(), drawn(), sign(), end(), a FAULT are none", 7, x.count(6));
        x.exchange(0, 0, 0);
        x.order(4);
        x.first(2);
        x.play();
        x.again(1);
        x.exchange(0, 0, 2);
        check.due("refused ones are none", 7, x.count(6));
        Check.play(x, "xox");
        x.kick(true);
        Check.play(x, "x");
        x.order(1);
        x.first(1);
        x.exchange(0, 0, 1);
        check.due("refused ones are none when it is OVER", 8, x.count(6));
    }

    private static void latestTwenty() {
        check.term(3, "the latest 20 can be undone");
        for (int acts = 18; acts <= 45; acts++) {
            KickOdds x = Check.of("a 3;b 3");
            for (int i = 0; i < acts; i++) {
                x.kick(true);
            }
            check.due(acts + " acts", Math.min(acts, 20), x.count(6));
            int undone = 0;
            while (undone < 30 && x.undo() >= 0) {
                undone++;
            }
            check.due(acts + " acts, undone", Math.min(acts, 20), undone);
            check.due(acts + " acts, left", Math.max(0, acts - 20), x.count(1));
            x.kick(true);
            x.kick(true);
            check.due(acts + " acts, two more", 2, x.count(6));
            check.due("undo", 1, x.undo());
            check.due("undo", 0, x.undo());
            check.due("undo", -3, x.undo());
            check.due(acts + " acts, left", Math.max(0, acts - 20), x.count(1));
        }
    }

    private static void teamsDone() {
        check.term(3, "teams() that was done: no KICKS, nothing to undo, nothing kept");
        KickOdds x = Check.of("a 12;b 34;order 3;first b;behind a 1;ahead b 2");
        x.keep(0);
        x.kick(true);
        x.keep(1);
        check.due("a FAULT", -1005, Check.teams(x, "a3;b3."));
        check.due("behind a FAULT the KICKS are there", 1, x.count(1));
        check.due("and what can be undone", 1, x.count(6));
        check.due("and what was kept", true, x.again(1));
        check.due("teams()", 1, Check.teams(x, "a3;b3"));
        check.due("KICKS", 0, x.count(1));
        check.due("to undo", 0, x.count(6));
        check.due("undo()", -3, x.undo());
        check.due("kept", false, x.again(0));
        check.due("kept", false, x.again(1));
        check.due("no goals", 0, x.side(0, 2) + x.side(1, 2));
        check.due("at first again", 0, x.count(2) + x.count(3) + x.side(0, 0) + x.side(1, 1));
        check.due("all begins anew", 1, x.kick(true));
        check.due("one act", 1, x.count(6));
        // nothing of the KICKS ahead of it comes back with new ones
        x = Check.of("a 333;b 333;first b");
        Check.play(x, "xxxxx");
        x.drawn(3, 2, 0);
        Check.teams(x, "a 333;b 333");
        Check.play(x, "oooo");
        for (int i = 0; i < 4; i++) {
            check.due("made(" + i + ")", i % 2 == 0 ? 0 : 10, x.made(i));
        }
        check.due("whose turn it is", 0, x.turn(0));
    }

    // ---- the words below the Terms

    private static void empties(String sides, String text, long want, Check.Call call) {
        KickOdds x = sides.isEmpty() ? new KickOdds() : Check.of(sides);
        Check.write(x, text);
        check.due(text + " on " + sides, want, call.on(x));
        check.due(text + " on " + sides + " leaves signs", 0, x.count(5));
    }

    private static void refusedText() {
        check.term(4, "change nothing but THE TEXT (which a call that can read it empties, whatever it answers)");
        empties("", "a3;b3", 1, KickOdds::teams);
        empties("", "a3;b3;", -1006, KickOdds::teams);
        empties("a3;b3", "?", -1000, KickOdds::teams);
        empties("", "xo", -2, KickOdds::play);
        empties("", "??", -2, KickOdds::play);
        empties("a3;b3", "xo", 2, KickOdds::play);
        empties("a3;b3", "xo?", -1002, KickOdds::play);
        empties("a3;b3", "xox", -1002, KickOdds::play);
        empties("a3;b3", "  ", 0, KickOdds::play);
        empties("", "xo", -2, KickOdds::judge);
        empties("", "??", -2, KickOdds::judge);
        empties("a3;b3", "xo", 2, KickOdds::judge);
        empties("a3;b3", "xo?", -1002, KickOdds::judge);
        empties("a3;b3", "xox", -1002, KickOdds::judge);
        // no other call empties it
        KickOdds x = Check.of("a3;b3");
        Check.write(x, "xx");
        x.kick(true);
        x.kick(false);
        x.kick(true);
        x.undo();
        x.again(0);
        x.drawn(1, 1, 0);
        x.odds(0, 0);
        x.end(3);
        check.due("both signs are there", 2, x.count(5));
        check.due("and as they were", 2, x.judge());
        check.due("goals of both", 11, 10 * x.judged(0) + x.judged(1));
    }

    private static void refusedOrder() {
        check.term(4, "-1 a number that can't be; -2 no SIDES told, no such SIDE, SHOOTER; -3 it can't be by what stands. The first of these in that order");
        String one = "a 3;b 3";
        String two = "a 12;b 34";
        check.stays("exchange: one twice of no SIDES", -1, "", "", x -> x.exchange(0, 1, 1));
        check.stays("exchange: one twice of no SIDE", -1, two, "", x -> x.exchange(2, 0, 0));
        check.stays("exchange: no SHOOTER twice", -1, two, "", x -> x.exchange(0, 9, 9));
        check.stays("exchange: one twice, a KICK was made", -1, two, "x", x -> x.exchange(0, 1, 1));
        check.stays("exchange: no SIDE, a KICK was made", -2, two, "x", x -> x.exchange(2, 0, 1));
        check.stays("exchange: no SHOOTER, a KICK was made", -2, two, "x", x -> x.exchange(0, 0, 2));
        check.stays("exchange: a KICK was made", -3, two, "x", x -> x.exchange(0, 0, 1));
        check.stays("order: 4 of no SIDES", -1, "", "", x -> x.order(4));
        check.stays("order: no SIDES", -2, "", "", x -> x.order(3));
        check.stays("order: 4, a KICK was made", -1, one, "x", x -> x.order(4));
        check.stays("order: a KICK was made", -3, one, "x", x -> x.order(3));
        check.stays("first: no SIDES", -2, "", "", x -> x.first(0));
        check.stays("first: no SIDE, a KICK was made", -2, one, "x", x -> x.first(2));
        check.stays("first: a KICK was made", -3, one, "x", x -> x.first(0));
        check.stays("drawn: 0 of no SIDES", -1, "", "", x -> x.drawn(0, 0, 0));
        check.stays("drawn: no SIDES", -2, "", "", x -> x.drawn(0, 1, 0));
        check.stays("kick: no SIDES", -2, "", "", x -> x.kick(true));
        check.stays("undo: no SIDES", -2, "", "", x -> x.undo());
        check.stays("undo: none", -3, one, "", x -> x.undo());
        check.stays("rests: others, n is 5", -1, "a 12345;b 12345", "", x -> x.rests(3));
    }

    private static void refusedChangesNothing() {
        check.term(4, "REFUSED calls answer as told, and change nothing but THE TEXT");
        String one = "a 3;b 3;order 1;first b";
        check.stays("kick when OVER", -3, one, "xo", x -> x.kick(true));
        check.stays("again of nothing", 0, one, "x", x -> x.again(0) ? 1 : 0);
        check.stays("again of 2", 0, one, "x", x -> x.again(2) ? 1 : 0);
        check.stays("keep of 2", 0, one, "x", x -> x.keep(2) ? 1 : 0);
        check.stays("end of more", 0, one, "x", x -> x.end(3) ? 1 : 0);
        check.stays("end below 0", 0, one, "x", x -> x.end(-1) ? 1 : 0);
        KickOdds x = Check.of(one);
        x.keep(0);
        x.kick(true);
        check.due("keep(2)", false, x.keep(2));
        check.due("keep(-1)", false, x.keep(-1));
        check.due("teams() with a FAULT", -1002, Check.teams(x, "a3"));
        check.due("what was kept is as it was", true, x.again(0));
        check.due("without a KICK", 0, x.count(1));
        check.due("another sign", -1001, Check.judge(x, "x?"));
        check.due("judge() with a FAULT tells nothing", -1, x.judged(0));
    }

    private static void none(String what, long want, Check.Call call) {
        check.stays(what + " without SIDES", want, "", "", call);
    }

    private static void noneOfAsking() {
        check.term(4, "NONE of a call that asks: others, no SIDES");
        none("side", NOTHING, x -> x.side(0, 0));
        none("judged", -1, x -> x.judged(0));
        none("turn", -1, x -> x.turn(0));
        none("odds", -1, x -> x.odds(0, 0));
        none("matters", NOTHING, x -> x.matters(0));
        none("oddsBy", -1, x -> x.oddsBy(0, 0, 0, 0));
        none("unfair", -1, x -> x.unfair(0, 0));
        none("fairest", -1, x -> x.fairest());
        none("toss", -1, x -> x.toss(0, 0));
        none("ends", -1, x -> x.ends(0));
        none("score", -1, x -> x.score(0, 0));
        none("likely", -1, x -> x.likely());
        none("mean", -1, x -> x.mean(0));
        none("needs", -1, x -> x.needs(0));
        none("oddsOf", -1, x -> x.oddsOf(0, 0, 0));
        none("best", -1, x -> x.best(0));
        none("climbed", -1, x -> x.climbed(0, 0));
        none("rests", -1, x -> x.rests(0));
        check.term(4, "NOTHING = Integer.MIN_VALUE");
        check.due("NOTHING", Integer.MIN_VALUE, KickOdds.NOTHING);
        check.due("NONE", -1, KickOdds.NONE);
    }
}
