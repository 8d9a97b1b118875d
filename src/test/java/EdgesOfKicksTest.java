/** The boundary cases that promises 1 to 13 name, sentence by sentence. */
public final class EdgesOfKicksTest {
    private static final int NOTHING = Integer.MIN_VALUE;
    private static final int MIN = Integer.MIN_VALUE;
    private static final int MAX = Integer.MAX_VALUE;
    private static final int[] NO_SIDES = {-1, 2, 3, 10, MIN, MAX};
    private static final Check check = new Check("EdgesOfKicksTest");

    public static void main(String[] args) {
        newObject();
        sign();
        end();
        teams();
        side();
        kick();
        play();
        playFaults();
        judge();
        judged();
        exchange();
        order();
        first();
        turn();
        check.finish();
    }

    private static KickOdds at(String sides, String kicks) {
        KickOdds x = Check.of(sides);
        for (int i = 0; i < kicks.length(); i++) {
            x.kick(kicks.charAt(i) == 'x');
        }
        return x;
    }

    private static String times(String piece, int many) {
        return piece.repeat(many);
    }

    // ---- 1

    private static void newObject() {
        check.says(1, "No SIDES.");
        KickOdds x = new KickOdds();
        check.due("SHOOTERS", 0, x.count(0));
        check.due("signs", 0, x.count(5));
        check.due("to undo", 0, x.count(6));
        check.due("side(0, 0)", NOTHING, x.side(0, 0));
        check.due("side(1, 10)", NOTHING, x.side(1, 10));
        check.due("turn(0)", -1, x.turn(0));
        check.due("kick()", -2, x.kick(true));
        check.due("undo()", -2, x.undo());
        check.due("keep(0)", false, x.keep(0));
        check.due("again(0)", false, x.again(0));
        check.due("made(0) throws", 1, Check.throwsNoSuch(x, 0));
        check.due("teams() of nothing", -1000, x.teams());
        check.due("another object has its own", 1, Check.of("a3;b3").count(0));
        check.due("this one none", 0, x.count(0));
    }

    // ---- 2

    private static void sign() {
        check.says(2, "Four signs come behind THE TEXT, of v the highest byte first: how many it has.");
        KickOdds x = new KickOdds();
        check.due("a 3;", 4, x.sign(0x6120333b));
        check.due("b 4 ", 8, x.sign(0x62203420));
        check.due("teams()", 1, x.teams());
        check.due("of a", 3, x.side(0, 10));
        check.due("of b", 4, x.side(1, 10));
        check.due("from none on again", 4, x.sign(0x6120333b));
        // a byte above 127 is one sign, and none of it spills into the others
        x = new KickOdds();
        x.sign(0x6133ff62);
        check.due("255 stands at 2", -1002, x.teams());
        x.sign(0xff613362);
        check.due("255 stands at 0", -1000, x.teams());
        x.sign(0x613362ff);
        check.due("b stands at 2", -1002, x.teams());
        x.sign(0x61333bff);
        check.due("255 stands at 3", -1003, x.teams());
        x.sign(-1);
        check.due("four of 255", 4, x.count(5));
        x.sign(0);
        check.due("four of 0", 8, x.count(5));
        check.due("255 stands at 0", -1000, x.teams());
        check.says(2, "NONE, and none comes: there would be more than 200.");
        for (int first = 0; first < 4; first++) {
            x = new KickOdds();
            Check.write(x, times(" ", first));
            int signs = first;
            while (signs + 4 <= 200) {
                signs += 4;
                check.due("sign", signs, x.sign(0x20202020));
            }
            check.due("sign beyond 200", -1, x.sign(0x78787878));
            check.due("none came", signs, x.count(5));
            check.due("sign beyond 200, again", -1, x.sign(0x20202020));
            check.due("all are blanks", -1000 - signs, x.teams());
            check.due("room again", 4, x.sign(0x20202020));
        }
    }

    // ---- 3

    private static void end() {
        check.says(3, "THE TEXT has its first n signs alone: true");
        for (int n = 0; n <= 8; n++) {
            KickOdds x = new KickOdds();
            Check.write(x, "a3;b3;a3");
            check.due("end(" + n + ")", true, x.end(n));
            check.due("signs", n, x.count(5));
            int want = n < 5 ? -1000 - n : n == 5 ? 1 : -1006;
            check.due("its first " + n, want, x.teams());
        }
        KickOdds x = new KickOdds();
        check.due("none of none", true, x.end(0));
        Check.write(x, "a3xx");
        x.end(2);
        Check.write(x, ";b4");
        check.due("what comes then is behind the first two", 1, x.teams());
        check.due("of b", 4, x.side(1, 10));
        x = new KickOdds();
        Check.write(x, times(" ", 200));
        check.due("end(200)", true, x.end(200));
        check.due("signs", 200, x.count(5));
        check.says(3, "false: it has not so many, n below 0");
        check.due("end(201)", false, x.end(201));
        check.due("end(-1)", false, x.end(-1));
        check.due("end(MIN)", false, x.end(MIN));
        check.due("end(MAX)", false, x.end(MAX));
        check.due("all are there", 200, x.count(5));
        x.end(3);
        check.due("end(4) of 3", false, x.end(4));
        check.due("the cut ones do not come back", 3, x.count(5));
        check.due("end(1) of none", false, new KickOdds().end(1));
    }

    // ---- 4

    private static void teams() {
        check.says(4, "THE TEXT tells the SIDES: n.");
        for (int n = 1; n <= 5; n++) {
            KickOdds x = at("a 12;b 34;order 2", "x");
            String skills = "65012".substring(0, n);
            check.due("teams()", n, Check.teams(x, "b" + skills + ";a" + skills));
            check.due("SHOOTERS", n, x.count(0));
            for (int i = 0; i < n; i++) {
                check.due("SKILL " + i, skills.charAt(i) - '0', x.side(i % 2, 10 + i));
            }
            check.due("the one behind the last", NOTHING, x.side(0, 10 + n));
            check.due("text", 0, x.count(5));
        }
        check.says(4, "-1000 and less by p: a FAULT at p (all stays).");
        KickOdds x = at("a 12;b 34;order 2;first b;behind a 1;ahead b -2", "x");
        x.keep(0);
        Check.judge(x, "xo");
        String before = Check.state(x);
        String[] faults = {"", "?", "a6;b5;order 1;first a;behind a 2;ahead b 3?", "a666;b55", "a6;b5;order 1;order 1",
            "a66666;b55555;first c", "a6"};
        int[] places = {0, 0, 42, 8, 14, 20, 2};
        for (int i = 0; i < faults.length; i++) {
            check.due(faults[i], -1000 - places[i], Check.teams(x, faults[i]));
            check.due(faults[i] + " leaves all", true, before.equals(Check.state(x)));
        }
        check.due("what can be undone, too", 0, x.undo());
        check.due("what is kept, too", true, x.again(0));
        check.due("a KICK again", 1, x.count(1));
    }

    // ---- 5

    private static void side() {
        check.says(5, "Of a SIDE what 0 BEHIND, 1 AHEAD, 2 goals NOW, 3 KICKS NOW, 10 + i SKILL of SHOOTER i.");
        KickOdds x = at("a 15;b 62;behind a -3;ahead a 3;behind b 2;ahead b -1;order 1", "");
        for (int what = 2; what < 4; what++) {
            check.due("none of a yet", 0, x.side(0, what));
            check.due("none of b yet", 0, x.side(1, what));
        }
        x.kick(true);
        check.due("goals of a", 1, x.side(0, 2));
        check.due("kicks of a", 1, x.side(0, 3));
        check.due("goals of b", 0, x.side(1, 2));
        check.due("kicks of b", 0, x.side(1, 3));
        x.kick(true);
        // b leads ROUND 1
        x.kick(true);
        check.due("goals of b", 2, x.side(1, 2));
        check.due("kicks of b", 2, x.side(1, 3));
        check.due("kicks of a", 1, x.side(0, 3));
        x.kick(true);
        check.due("kicks of a", 2, x.side(0, 3));
        // SUDDEN: a leads
        x.kick(false);
        check.due("kicks of a", 3, x.side(0, 3));
        check.due("kicks of b", 2, x.side(1, 3));
        check.due("goals of a", 2, x.side(0, 2));
        int[] ofA = {-3, 3, 2, 3};
        int[] ofB = {2, -1, 2, 2};
        for (int what = 0; what < 4; what++) {
            check.due("of a " + what, ofA[what], x.side(0, what));
            check.due("of b " + what, ofB[what], x.side(1, what));
        }
        check.due("SKILL", 1, x.side(0, 10));
        check.due("SKILL", 5, x.side(0, 11));
        check.due("SKILL", 6, x.side(1, 10));
        check.due("SKILL", 2, x.side(1, 11));
        check.says(5, "NOTHING: others.");
        for (int what : new int[] {-1, 4, 5, 6, 9, 12, 13, 15, 20, MIN, MAX}) {
            check.due("what " + what, NOTHING, x.side(0, what));
            check.due("what " + what, NOTHING, x.side(1, what));
        }
        for (int none : NO_SIDES) {
            check.due("side " + none, NOTHING, x.side(none, 0));
            check.due("side " + none, NOTHING, x.side(none, 10));
        }
        check.due("the fifth of five", 4, Check.of("a01234;b11111").side(0, 14));
        check.due("a sixth of five", NOTHING, Check.of("a01234;b11111").side(0, 15));
        check.stays("no SIDES", NOTHING, "", "", y -> y.side(0, 0));
    }

    // ---- 6

    private static void kick() {
        check.says(6, "A KICK is made by whose turn it is: goals of that side then.");
        KickOdds x = Check.of("a 33;b 33;order 1");
        check.due("a, none", 0, x.kick(false));
        check.due("b", 1, x.kick(true));
        check.due("b leads ROUND 1", 2, x.kick(true));
        check.due("who made it", 11, x.made(2));
        x = Check.of("a 0;b 0;first b");
        check.due("b first, of CHANCE 0", 1, x.kick(true));
        check.due("a, of CHANCE 0", 1, x.kick(true));
        check.due("b", 2, x.kick(true));
        check.says(6, "-2; -3 it is OVER");
        check.stays("no SIDES", -2, "", "", y -> y.kick(true));
        check.stays("no SIDES", -2, "", "", y -> y.kick(false));
        check.stays("OVER by a goal", -3, "a 33;b 33", "xox", y -> y.kick(true));
        check.stays("OVER behind a REGULAR ROUND", -3, "a 3;b 3", "ox", y -> y.kick(false));
        check.stays("OVER behind a SUDDEN ROUND", -3, "a 3;b 3", "xxxo", y -> y.kick(true));
        x = at("a 3;b 3", "xxx");
        check.due("amid a SUDDEN ROUND it is not", 1, x.kick(false));
        check.due("then it is", -3, x.kick(true));
        check.says(6, "there were 60.");
        x = at("a 3;b 3", times("o", 59));
        check.due("the 60th", 1, x.kick(true));
        check.due("OVER then", 1, x.count(4));
        x = at("a 3;b 3", times("x", 59));
        check.due("the 60th", 30, x.kick(true));
        check.due("not OVER then", 0, x.count(4));
        check.due("the 61st", -3, x.kick(true));
        check.due("the 61st", -3, x.kick(false));
        check.due("KICKS", 60, x.count(1));
        check.due("goals of a", 30, x.side(0, 2));
        check.due("to undo", 20, x.count(6));
        check.due("undone", 19, x.undo());
        check.due("the 60th anew", 29, x.kick(false));
    }

    // ---- 7

    private static void play() {
        check.says(7, "THE TEXT, x (a goal) and o (none), blanks between or not: KICKS one by one");
        KickOdds x = Check.of("a 333;b 333");
        check.due("nothing told", 0, x.play());
        check.due("blanks alone", 0, Check.play(x, "      "));
        check.due("one", 1, Check.play(x, "x"));
        check.due("two", 2, Check.play(x, "  o   x "));
        check.due("made", 1, x.made(0));
        check.due("made", 10, x.made(1));
        check.due("made", 1, x.made(2));
        check.due("text", 0, x.count(5));
        check.says(7, "till it is OVER: how many.");
        check.due("to the end", 1, Check.play(x, "o"));
        check.due("OVER", 1, x.count(4));
        check.due("blanks behind it", 0, Check.play(x, "   "));
        x = Check.of("a 333;b 333");
        check.due("all at once, blanks behind", 4, Check.play(x, "xoxo    "));
        check.due("OVER", 1, x.count(4));
        x = Check.of("a 3;b 3");
        check.due("60", 60, Check.play(x, times("x", 60)));
        check.due("blanks behind 60", 0, Check.play(x, " "));
        x = Check.of("a 3;b 3");
        check.due("60 and blanks", 60, Check.play(x, times("o", 60) + times(" ", 140)));
        x = Check.of("a 3;b 3");
        check.due("60 with blanks", 60, Check.play(x, times(" o ", 60)));
        check.says(7, "-2;");
        x = new KickOdds();
        check.due("no SIDES, nothing told", -2, x.play());
        check.due("no SIDES", -2, Check.play(x, "xo"));
        check.due("no SIDES, another sign", -2, Check.play(x, "xy"));
        check.due("emptied", 0, x.count(5));
        check.says(7, "(An act, if one KICK at least was made.)");
        x = Check.of("a 333;b 333");
        x.play();
        Check.play(x, "   ");
        Check.play(x, "xo?");
        check.due("no act yet", 0, x.count(6));
        Check.play(x, "x");
        check.due("an act", 1, x.count(6));
        Check.play(x, "oxoxo");
        check.due("an act, though with a FAULT", 2, x.count(6));
        check.due("four KICKS", 4, x.count(1));
        Check.play(x, "x");
        check.due("no act when OVER", 2, x.count(6));
        check.due("undone at once", 1, x.undo());
        check.due("one KICK", 1, x.count(1));
    }

    private static void playFault(int p, String sides, String kicks, String text, int made) {
        KickOdds x = at(sides, kicks);
        int before = x.count(1);
        int acts = x.count(6);
        check.due(kicks + " then " + text, -1000 - p, Check.play(x, text));
        check.due(kicks + " then " + text + " makes", made, x.count(1) - before);
        check.due(kicks + " then " + text + " acts", Math.min(20, made > 0 ? acts + 1 : acts), x.count(6));
        check.due(kicks + " then " + text + " leaves signs", 0, x.count(5));
    }

    private static void playFaults() {
        check.says(7, "-1000 and less by p: another sign at p (nothing is done)");
        String three = "a 333;b 333";
        for (int sign : new int[] {0, 9, 10, 31, 33, '0', 'X', 'O', 'n', 'p', 'w', 'y', 127, 160, 255}) {
            playFault(0, three, "", (char) sign + "x", 0);
            playFault(3, three, "", "xo " + (char) sign, 0);
        }
        playFault(1, three, "x", "o;x", 0);
        playFault(2, three, "", "xo,x?", 0);
        // wherever it stands, behind OVER too: nothing is done then
        playFault(5, three, "", "xoxox?", 0);
        playFault(1, three, "xoxo", "x?", 0);
        playFault(199, three, "", times(" ", 199) + "?", 0);
        playFault(61, "a 3;b 3", "", times("x", 61) + "?", 0);
        check.says(7, "the first beyond it that is no blank, if it is OVER by then");
        playFault(4, three, "", "xoxoo", 4);
        playFault(7, three, "", "xoxo   xo", 4);
        playFault(0, three, "xoxo", "x", 0);
        playFault(3, three, "xoxo", "   o", 0);
        playFault(1, three, "xox", "oo", 1);
        playFault(2, "a 3;b 3", "", "xox", 2);
        playFault(2, "a 3;b 3", "oo", "xox", 2);
        check.says(7, "or there were 60 (those ahead of it are made).");
        playFault(60, "a 3;b 3", "", times("x", 61), 60);
        playFault(62, "a 3;b 3", "", times("x", 60) + "  o", 60);
        playFault(1, "a 3;b 3", times("o", 59), "oo", 1);
        playFault(0, "a 3;b 3", times("o", 60), "o", 0);
        playFault(2, "a 3;b 3", times("o", 60), "  x", 0);
    }

    // ---- 8

    private static void judge() {
        check.says(8, "THE TEXT, as for play(), AT THE START, nothing being done: how many KICKS");
        for (String kicks : new String[] {"", "o", "xx", "xoxo", "xxxxxx"}) {
            KickOdds x = at("a 333;b 333;order 3;first b", kicks);
            long odds = x.odds(0, 0);
            check.due("behind " + kicks + " judge", 5, Check.judge(x, " xo xxo  "));
            check.due("nothing is done", kicks.length(), x.count(1));
            check.due("no act", kicks.length(), x.count(6));
            check.due("odds from NOW on are as they were", odds, x.odds(0, 0));
            // b 1, a 0; then a leads: a 1, b 2; then a none
            check.due("goals of a", 1, x.judged(0));
            check.due("goals of b", 2, x.judged(1));
        }
        KickOdds x = Check.of("a 333;b 333;first b");
        Check.play(x, "xxxxx");
        x.undo();
        x.first(0);
        check.due("by a first then", 3, Check.judge(x, "xox"));
        check.due("goals of a", 2, x.judged(0));
        check.due("goals of b", 0, x.judged(1));
        x = at("a 3;b 3", "xo");
        check.due("nothing told", 0, x.judge());
        check.due("blanks alone", 0, Check.judge(x, "   "));
        check.due("one", 1, Check.judge(x, "x"));
        check.due("60", 60, Check.judge(x, times("x", 60)));
        check.due("text", 0, x.count(5));
        check.says(8, "-1000 and less by p: likewise.");
        check.due("another sign", -1000, Check.judge(x, "?"));
        check.due("another sign", -1001, Check.judge(x, "x?"));
        check.due("another sign behind OVER", -1003, Check.judge(x, "xox?"));
        check.due("beyond OVER", -1002, Check.judge(x, "xox"));
        check.due("beyond OVER and blanks", -1005, Check.judge(x, "xo   x"));
        check.due("OVER and blanks", 2, Check.judge(x, "xo   "));
        check.due("beyond 60", -1060, Check.judge(x, times("x", 61)));
        check.due("beyond 60 and blanks", -1061, Check.judge(x, times("x", 60) + " o"));
        check.due("another sign beyond 60", -1061, Check.judge(x, times("x", 61) + "?"));
        check.due("emptied", 0, x.count(5));
        check.says(8, "Of the latest that was no FAULT, see judged().");
        check.due("the latest that was none", 2, x.judge() + Check.judge(x, "ox"));
        check.due("a FAULT behind it", -1002, Check.judge(x, "xoo"));
        check.due("another one", -1000, Check.judge(x, "-"));
        check.due("goals of a", 0, x.judged(0));
        check.due("goals of b", 1, x.judged(1));
        check.says(8, "-2.");
        x = new KickOdds();
        check.due("no SIDES, nothing told", -2, x.judge());
        check.due("no SIDES", -2, Check.judge(x, "xo"));
        check.due("no SIDES, another sign", -2, Check.judge(x, "?"));
        check.due("emptied", 0, x.count(5));
        check.due("nothing judged", -1, x.judged(0));
    }

    // ---- 9

    private static void judgedIs(KickOdds x, String what, int a, int b, int over, int round) {
        check.due(what + ": goals of a", a, x.judged(0));
        check.due(what + ": goals of b", b, x.judged(1));
        check.due(what + ": OVER", over, x.judged(2));
        check.due(what + ": ROUND", round, x.judged(3));
    }

    private static void judged() {
        check.says(9, "what 0 goals of a, 1 of b, 2 1 if it is OVER, else 0, 3 the ROUND of its last KICK");
        KickOdds x = at("a 33;b 33", "x");
        String[] texts = {"x", "xo", "oxx", "oxo", "xxxx", "xxxxo", "xxxxox"};
        int[][] want = {{1, 0, 0, 0}, {1, 0, 0, 0}, {1, 1, 0, 1}, {0, 1, 1, 1}, {2, 2, 0, 1}, {2, 2, 0, 2}, {2, 3, 1, 2}};
        for (int i = 0; i < texts.length; i++) {
            Check.judge(x, texts[i]);
            judgedIs(x, texts[i], want[i][0], want[i][1], want[i][2], want[i][3]);
        }
        Check.judge(x, times("x", 60));
        judgedIs(x, "60", 30, 30, 0, 29);
        check.says(9, "(NONE without one)");
        x.judge();
        judgedIs(x, "no KICK", 0, 0, 0, -1);
        Check.judge(x, "   ");
        judgedIs(x, "blanks", 0, 0, 0, -1);
        check.says(9, "Of the latest judge() without a FAULT");
        Check.judge(x, "xo");
        for (String fault : new String[] {"oo?", "oxox", "?", "oxo  x"}) {
            Check.judge(x, fault);
            judgedIs(x, "behind the FAULT of " + fault, 1, 0, 0, 0);
        }
        x.undo();
        x.order(3);
        x.first(1);
        judgedIs(x, "of then, not of what stands", 1, 0, 0, 0);
        Check.play(x, "xx");
        judgedIs(x, "play() is no judge()", 1, 0, 0, 0);
        Check.judge(x, "ox");
        judgedIs(x, "by b first", 1, 0, 0, 0);
        Check.judge(x, "xo");
        judgedIs(x, "by b first", 0, 1, 0, 0);
        check.says(9, "NONE: others, ahead of any.");
        for (int what : new int[] {-1, 4, 5, MIN, MAX}) {
            check.due("what " + what, -1, x.judged(what));
        }
        x = Check.of("a 3;b 3");
        judgedIs(x, "ahead of any", -1, -1, -1, -1);
        Check.judge(x, "xox");
        judgedIs(x, "ahead of any without a FAULT", -1, -1, -1, -1);
        Check.play(x, "xo");
        judgedIs(x, "play() is none", -1, -1, -1, -1);
        judgedIs(new KickOdds(), "no SIDES", -1, -1, -1, -1);
    }

    // ---- 10

    private static void exchange() {
        check.says(10, "Two SHOOTERS of a SIDE are exchanged: SKILL of i then.");
        for (int i = 0; i < 5; i++) {
            for (int j = 0; j < 5; j++) {
                KickOdds x = Check.of("a 01234;b 65432");
                int side = (i + j) % 2;
                int[] skills = side == 0 ? new int[] {0, 1, 2, 3, 4} : new int[] {6, 5, 4, 3, 2};
                check.due("exchange " + i + " " + j, i == j ? -1 : skills[j], x.exchange(side, i, j));
                for (int k = 0; k < 5; k++) {
                    int from = k == i ? j : k == j ? i : k;
                    check.due("SKILL of " + k, skills[from], x.side(side, 10 + k));
                    check.due("of the other side", side == 0 ? 6 - k : k, x.side(1 - side, 10 + k));
                }
                check.due("acts", i == j ? 0 : 1, x.count(6));
            }
        }
        check.due("of like ones, too", 3, Check.of("a 33;b 33").exchange(1, 0, 1));
        check.says(10, "-1 one twice");
        check.stays("one twice", -1, "a 12;b 34", "", x -> x.exchange(0, 0, 0));
        check.stays("one twice", -1, "a 12;b 34", "", x -> x.exchange(1, 1, 1));
        check.stays("none twice", -1, "a 12;b 34", "", x -> x.exchange(0, -1, -1));
        check.stays("the only one twice", -1, "a 1;b 3", "", x -> x.exchange(0, 0, 0));
        check.says(10, "-2;");
        check.stays("no SIDES", -2, "", "", x -> x.exchange(0, 0, 1));
        for (int none : NO_SIDES) {
            check.stays("no SIDE", -2, "a 12;b 34", "", x -> x.exchange(none, 0, 1));
            check.stays("no SHOOTER i", -2, "a 12;b 34", "", x -> x.exchange(0, none, 1));
            check.stays("no SHOOTER j", -2, "a 12;b 34", "", x -> x.exchange(1, 0, none));
        }
        check.stays("a second of one", -2, "a 1;b 3", "", x -> x.exchange(0, 0, 1));
        check.stays("a sixth of five", -2, "a 12345;b 12345", "", x -> x.exchange(0, 5, 0));
        check.says(10, "-3 a KICK was made.");
        check.stays("a KICK", -3, "a 12;b 34", "o", x -> x.exchange(0, 0, 1));
        check.stays("OVER", -3, "a 12;b 34", "xox", x -> x.exchange(1, 0, 1));
        KickOdds x = at("a 12;b 34", "o");
        x.undo();
        check.due("the KICK was undone", 2, x.exchange(0, 0, 1));
    }

    // ---- 11

    private static void order() {
        check.says(11, "ORDER becomes k: what it was.");
        KickOdds x = Check.of("a 12;b 34;order 3");
        int was = 3;
        for (int k : new int[] {0, 1, 1, 2, 3, 0}) {
            check.due("order(" + k + ")", was, x.order(k));
            check.due("ORDER", k, x.count(2));
            was = k;
        }
        check.says(11, "-1;");
        for (int k : new int[] {-1, 4, 5, MIN, MAX}) {
            check.stays("order(" + k + ")", -1, "a 12;b 34;order 2", "", y -> y.order(k));
        }
        check.says(11, "-2;");
        check.stays("no SIDES", -2, "", "", y -> y.order(0));
        check.says(11, "-3 a KICK was made.");
        check.stays("a KICK", -3, "a 12;b 34;order 2", "x", y -> y.order(1));
        check.stays("a KICK, as it is", -3, "a 12;b 34;order 2", "x", y -> y.order(2));
        x.kick(true);
        x.undo();
        check.due("the KICK was undone", 0, x.order(1));
    }

    // ---- 12

    private static void first() {
        check.says(12, "FIRST becomes a SIDE: which it was.");
        KickOdds x = Check.of("a 12;b 34;first b");
        int was = 1;
        for (int side : new int[] {0, 0, 1, 1, 0}) {
            check.due("first(" + side + ")", was, x.first(side));
            check.due("FIRST", side, x.count(3));
            check.due("whose turn it is", side, x.turn(0));
            was = side;
        }
        check.says(12, "-2;");
        check.stays("no SIDES", -2, "", "", y -> y.first(1));
        for (int none : NO_SIDES) {
            check.stays("first(" + none + ")", -2, "a 12;b 34;first b", "", y -> y.first(none));
        }
        check.says(12, "-3 a KICK was made.");
        check.stays("a KICK", -3, "a 12;b 34;first b", "x", y -> y.first(0));
        check.stays("a KICK, as it is", -3, "a 12;b 34;first b", "x", y -> y.first(1));
        x.kick(true);
        x.undo();
        check.due("the KICK was undone", 0, x.first(1));
    }

    // ---- 13

    private static void turnIs(String sides, String kicks, int side, int round, int shooter, int chance) {
        KickOdds x = at(sides, kicks);
        int[] want = {side, round, shooter, chance};
        for (int what = 0; what < 4; what++) {
            check.due(sides + " behind " + kicks + ": turn(" + what + ")", want[what], x.turn(what));
        }
    }

    private static void turn() {
        check.says(13, "NOW what 0: whose turn it is");
        turnIs("a 12;b 45;behind b 1;order 1", "", 0, 0, 0, 1);
        turnIs("a 12;b 45;behind b 1;order 1", "x", 1, 0, 0, 5);
        check.says(13, "1 the ROUND, 2 the SHOOTER, 3 his CHANCE");
        turnIs("a 12;b 45;behind b 1;order 1", "xx", 1, 1, 1, 5);
        turnIs("a 12;b 45;behind b 1;order 1", "xxo", 0, 1, 1, 2);
        turnIs("a 12;b 45;behind b 1;order 1", "xxoo", 0, 2, 0, 1);
        turnIs("a 12;b 45;behind b 1;order 1", "xxoox", 1, 2, 0, 5);
        turnIs("a 12;b 45;behind b 1;order 1", "xxooxx", 0, 3, 1, 2);
        turnIs("a 3;b 4", times("x", 60), 0, 30, 0, 3);
        turnIs("a 345;b 345;first b", times("x", 59), 0, 29, 2, 5);
        check.says(13, "(-2: it is OVER)");
        check.due("0", -2, at("a 12;b 45", "xox").turn(0));
        check.due("0 behind a SUDDEN ROUND", -2, at("a 1;b 4", "xxox").turn(0));
        check.says(13, "(1 .. 3: -2, if it is OVER)");
        for (int what = 1; what < 4; what++) {
            check.due(what + " when OVER", -2, at("a 12;b 45", "xox").turn(what));
            check.due(what + " behind a SUDDEN ROUND", -2, at("a 1;b 4", "xxox").turn(what));
        }
        check.says(13, "NONE: others.");
        for (int what : new int[] {-1, 4, 5, MIN, MAX}) {
            check.stays("what " + what, -1, "a 12;b 45", "", x -> x.turn(what));
            check.stays("what " + what + " when OVER", -1, "a 12;b 45", "xox", x -> x.turn(what));
        }
        for (int what = 0; what < 4; what++) {
            check.due("no SIDES", -1, new KickOdds().turn(what));
        }
    }
}
