/** The boundary cases that promises 31 to 35 name, sentence by sentence. */
public final class EdgesOfBackTest {
    private static final int MIN = Integer.MIN_VALUE;
    private static final int MAX = Integer.MAX_VALUE;
    private static final Check check = new Check("EdgesOfBackTest");

    public static void main(String[] args) {
        undo();
        undoRefused();
        keep();
        again();
        made();
        count();
        countNone();
        check.finish();
    }

    /** What undo() and again() bring back: KICKS, rows of SHOOTERS, ORDER, FIRST, and what follows of them. */
    private static String standing(KickOdds x) {
        StringBuilder b = new StringBuilder();
        for (int what = 0; what <= 4; what++) {
            b.append(x.count(what)).append(' ');
        }
        for (int what = 0; what < 16; what++) {
            b.append(x.side(0, what)).append(' ').append(x.side(1, what)).append(' ');
        }
        for (int i = 0; i < x.count(1); i++) {
            b.append(x.made(i)).append(' ');
        }
        b.append(x.turn(0)).append(' ').append(x.turn(3)).append(' ').append(x.odds(0, 0)).append('/').append(x.odds(0, 1));
        return b.toString();
    }

    // ---- 31

    private static void undone(String what, String kicks, Check.Call act) {
        KickOdds x = Check.of("a 152;b 341;order 2;first b;behind a 1;ahead b -2");
        Check.play(x, kicks);
        int acts = x.count(6);
        x.keep(1);
        String before = standing(x);
        check.due(what + " is done", true, act.on(x) >= 0);
        check.due(what + " can be undone", acts + 1, x.count(6));
        check.due(what + " undone", acts, x.undo());
        check.due(what + " undone: " + before + " | " + standing(x), true, before.equals(standing(x)));
        check.due(what + " is done anew", true, act.on(x) >= 0);
        check.due(what + " can be undone", acts + 1, x.count(6));
    }

    private static void undo() {
        check.says(31, "The latest act is undone: how many can be yet.");
        undone("kick()", "", x -> x.kick(true));
        undone("kick()", "xo", x -> x.kick(false));
        undone("a KICK by which it is OVER", "xox", x -> x.kick(false));
        undone("a SUDDEN KICK", "xxxxxx", x -> x.kick(true));
        undone("exchange()", "", x -> x.exchange(0, 0, 2));
        undone("order()", "", x -> x.order(3));
        undone("first()", "", x -> x.first(0));
        undone("play()", "", x -> Check.play(x, "xoo"));
        undone("play() up to OVER", "xo", x -> Check.play(x, "xo"));
        undone("again()", "xo", x -> x.again(1) ? 1 : 0);
        KickOdds x = Check.of("a 3;b 3");
        for (int i = 0; i < 21; i++) {
            x.kick(true);
        }
        for (int left = 19; left >= 0; left--) {
            check.due("left", left, x.undo());
            check.due("KICKS", left + 1, x.count(1));
            check.due("to undo", left, x.count(6));
        }
        check.due("the first of 21 is not undone", -3, x.undo());
        check.due("its KICK is there", 1, x.count(1));
        // a play() with a FAULT beyond OVER is one act
        x = Check.of("a 3;b 3");
        check.due("a FAULT", -1002, Check.play(x, "xoo"));
        check.due("undone", 0, x.undo());
        check.due("KICKS", 0, x.count(1));
        // undo() brings back what stood ahead of again(), not what is kept
        x = Check.of("a 3;b 3");
        x.kick(true);
        x.keep(0);
        x.kick(true);
        x.again(0);
        check.due("undo of again()", 2, x.undo());
        check.due("KICKS", 2, x.count(1));
        check.due("kept is there", true, x.again(0));
        check.due("KICKS", 1, x.count(1));
    }

    private static void undoRefused() {
        check.says(31, "-2;");
        check.stays("no SIDES", -2, "", "", KickOdds::undo);
        KickOdds x = new KickOdds();
        Check.teams(x, "a3");
        check.due("a FAULT told none", -2, x.undo());
        check.says(31, "-3 none.");
        check.stays("none", -3, "a 3;b 3", "", KickOdds::undo);
        x = Check.of("a 3;b 3");
        x.keep(0);
        x.order(4);
        x.judge();
        check.due("no act yet", -3, x.undo());
        x.kick(true);
        check.due("one", 0, x.undo());
        check.due("none", -3, x.undo());
        check.due("none", -3, x.undo());
        check.due("to undo", 0, x.count(6));
        x.kick(true);
        Check.teams(x, "a 4;b 4");
        check.due("none behind teams()", -3, x.undo());
    }

    // ---- 32

    private static void keep() {
        check.says(32, "KICKS, rows of SHOOTERS, ORDER, FIRST are kept under k (0, 1): true");
        for (int k = 0; k < 2; k++) {
            int under = k;
            check.stays("keep(" + k + ")", 1, "a 12;b 34", "x", y -> y.keep(under) ? 1 : 0);
            KickOdds x = Check.of("a 12;b 34");
            x.exchange(0, 0, 1);
            x.order(3);
            x.first(1);
            Check.play(x, "xo");
            String kept = standing(x);
            check.due("keep(" + k + ")", true, x.keep(k));
            check.due("keep() is no act", 4, x.count(6));
            for (int i = 0; i < 4; i++) {
                x.undo();
            }
            check.due("all undone", 0, x.count(1) + x.count(2) + x.count(3));
            check.due("the other one has nothing", false, x.again(1 - k));
            check.due("again(" + k + ")", true, x.again(k));
            check.due("all as it was kept", true, kept.equals(standing(x)));
            // kept anew under the same k
            Check.play(x, "x");
            x.keep(k);
            x.undo();
            x.again(k);
            check.due("kept anew", 3, x.count(1));
        }
        KickOdds x = Check.of("a 1;b 3");
        x.keep(0);
        x.kick(true);
        x.keep(1);
        x.kick(true);
        x.again(0);
        check.due("under 0", 0, x.count(1));
        x.again(1);
        check.due("under 1", 1, x.count(1));
        check.says(32, "false: others, no SIDES.");
        for (int k : new int[] {-1, 2, 3, MIN, MAX}) {
            check.stays("keep(" + k + ")", 0, "a 12;b 34", "x", y -> y.keep(k) ? 1 : 0);
        }
        for (int k = 0; k < 2; k++) {
            int under = k;
            check.stays("no SIDES", 0, "", "", y -> y.keep(under) ? 1 : 0);
            x = new KickOdds();
            x.keep(k);
            Check.teams(x, "a3;b3");
            check.due("nothing was kept without SIDES", false, x.again(k));
        }
    }

    // ---- 33

    private static void again() {
        check.says(33, "They are as they were kept (an act): true");
        KickOdds x = Check.of("a 12;b 34;behind a 2");
        String kept = standing(x);
        x.keep(0);
        check.due("as it is", true, x.again(0));
        check.due("an act", 1, x.count(6));
        x.exchange(1, 0, 1);
        x.order(1);
        x.first(1);
        Check.play(x, "xox");
        check.due("again(0)", true, x.again(0));
        check.due("all as it was", true, kept.equals(standing(x)));
        check.due("acts", 6, x.count(6));
        check.due("it can be gone on from", 1, x.kick(true));
        check.due("kept is as it was", true, x.again(0));
        check.due("all as it was", true, kept.equals(standing(x)));
        // what is kept stays kept behind undo(), and acts go on being 20 at most
        for (int i = 0; i < 25; i++) {
            x.again(0);
        }
        check.due("20 at most", 20, x.count(6));
        x.undo();
        check.due("again", true, x.again(0));
        // an end that was kept is OVER again
        x = Check.of("a 3;b 3");
        Check.play(x, "xo");
        x.keep(1);
        x.undo();
        check.due("not OVER", 0, x.count(4));
        x.again(1);
        check.due("OVER", 1, x.count(4));
        check.due("no KICK then", -3, x.kick(true));
        check.says(33, "false: others, nothing kept.");
        for (int k : new int[] {-1, 2, 3, MIN, MAX}) {
            check.stays("again(" + k + ")", 0, "a 12;b 34", "x", y -> y.again(k) ? 1 : 0);
        }
        for (int k = 0; k < 2; k++) {
            int under = k;
            check.stays("nothing kept", 0, "a 12;b 34", "x", y -> y.again(under) ? 1 : 0);
            check.stays("no SIDES", 0, "", "", y -> y.again(under) ? 1 : 0);
            x = Check.of("a 12;b 34");
            x.keep(1 - k);
            check.due("kept under the other one", false, x.again(k));
            x.keep(k);
            Check.teams(x, "a 12;b 34");
            check.due("nothing behind teams()", false, x.again(k));
            check.due("no act by that", 0, x.count(6));
        }
    }

    // ---- 34

    private static void made() {
        check.says(34, "KICK i (0 on) NOW: 10 times the side, and 1 if it was a goal.");
        KickOdds x = Check.of("a 3333;b 3333;order 2");
        int[] want = {1, 11, 10, 0, 11, 1};
        Check.play(x, "xxooxx");
        for (int i = 0; i < want.length; i++) {
            check.due("made(" + i + ")", want[i], x.made(i));
        }
        x = Check.of("a 3;b 3");
        x.kick(false);
        check.due("a's first, none", 0, x.made(0));
        x.kick(false);
        check.due("b's first, none", 10, x.made(1));
        x.undo();
        x.kick(true);
        check.due("b's first, a goal", 11, x.made(1));
        x = Check.of("a 3;b 3;first b");
        for (int i = 0; i < 60; i++) {
            x.kick(i % 4 < 2);
            check.due("made(" + i + ")", (i % 2 == 0 ? 10 : 0) + (i % 4 < 2 ? 1 : 0), x.made(i));
        }
        check.due("made(0) of 60", 11, x.made(0));
        check.due("made(31) of 60", 0, x.made(31));
        check.due("made(32) of 60", 11, x.made(32));
        check.due("made(59) of 60", 0, x.made(59));
        check.says(34, "NoSuchElementException: none such.");
        for (int i : new int[] {60, 61, 64, -1, MIN, MAX}) {
            check.due("made(" + i + ") of 60 throws", 1, Check.throwsNoSuch(x, i));
        }
        x.undo();
        check.due("made(59) of 59 throws", 1, Check.throwsNoSuch(x, 59));
        check.due("made(58) of 59", 0, Check.throwsNoSuch(x, 58));
        x = Check.of("a 3;b 3");
        check.due("made(0) of none throws", 1, Check.throwsNoSuch(x, 0));
        x.kick(true);
        check.due("made(1) of one throws", 1, Check.throwsNoSuch(x, 1));
        Check.judge(x, "xx");
        check.due("judge() makes none", 1, Check.throwsNoSuch(x, 1));
        Check.teams(x, "a 3;b 3");
        check.due("none behind teams()", 1, Check.throwsNoSuch(x, 0));
        check.due("no SIDES", 1, Check.throwsNoSuch(new KickOdds(), 0));
        check.stays("a throw leaves all", 1, "a 3;b 3", "x", y -> Check.throwsNoSuch(y, 1));
    }

    // ---- 35

    private static void counts(String what, KickOdds x, int... want) {
        for (int i = 0; i < want.length; i++) {
            check.due(what + ": count(" + i + ")", want[i], x.count(i));
        }
    }

    private static void count() {
        check.says(35, "1 KICKS, 2 ORDER, 3 FIRST, 4 1 if it is OVER, else 0, 5 signs of THE TEXT, 6 what can be undone.");
        KickOdds x = Check.of("a 33;b 33;order 3;first b");
        counts("at the start", x, 2, 0, 3, 1, 0, 0, 0);
        Check.write(x, "xoo  ");
        counts("with a text", x, 2, 0, 3, 1, 0, 5, 0);
        x.play();
        counts("OVER", x, 2, 3, 3, 1, 1, 0, 1);
        x.undo();
        counts("undone", x, 2, 0, 3, 1, 0, 0, 0);
        x.order(1);
        x.first(0);
        counts("other ones", x, 2, 0, 1, 0, 0, 0, 2);
        x = Check.of("a 33333;b 33333");
        for (int i = 0; i < 60; i++) {
            x.kick(true);
        }
        Check.write(x, " ".repeat(200));
        counts("as many as there can be", x, 5, 60, 0, 0, 0, 200, 20);
        check.says(35, "0 SHOOTERS of a side (0 without)");
        x = new KickOdds();
        check.due("without", 0, x.count(0));
        Check.teams(x, "a 33;b 3");
        check.due("without behind a FAULT", 0, x.count(0));
        Check.teams(x, "a 33;b 34");
        check.due("with", 2, x.count(0));
        Check.teams(x, "a 33;b 3");
        check.due("with behind a FAULT", 2, x.count(0));
        x = new KickOdds();
        Check.write(x, "a 3");
        counts("without SIDES", x, 0, 0, 0, 0, 0, 3, 0);
    }

    private static void countNone() {
        check.says(35, "NONE: others.");
        for (int what : new int[] {-1, 7, 8, 10, MIN, MAX}) {
            check.stays("count(" + what + ")", -1, "a 3;b 3", "x", x -> x.count(what));
            check.stays("count(" + what + ") without SIDES", -1, "", "", x -> x.count(what));
        }
    }
}
