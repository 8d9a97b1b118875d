/** Each promise by its number: ordinary answers worked out by hand, the edges, wrong inputs. */
public final class PromisesTest {
    private static final int NOTHING = Integer.MIN_VALUE;
    private static final Check check = new Check("PromisesTest");

    public static void main(String[] args) {
        newObject();
        sign();
        end();
        teams();
        teamsDone();
        side();
        kick();
        sixtyKicks();
        play();
        judge();
        exchange();
        order();
        first();
        turn();
        odds();
        oddsInSudden();
        matters();
        oddsBy();
        unfairAndFairest();
        toss();
        ends();
        score();
        mean();
        needs();
        oddsOf();
        best();
        climbed();
        rests();
        guess();
        guessByTrying();
        drawn();
        undo();
        undoKinds();
        keepAndAgain();
        made();
        count();
        withoutSides();
        check.finish();
    }

    // 1
    private static void newObject() {
        KickOdds x = new KickOdds();
        check.due("new count(0)", 0, x.count(0));
        check.due("new side", NOTHING, x.side(0, 0));
        check.due("new undo", -2, x.undo());
        check.due("NONE", -1, KickOdds.NONE);
        check.due("NOTHING", Integer.MIN_VALUE, KickOdds.NOTHING);
    }

    // 2
    private static void sign() {
        KickOdds x = new KickOdds();
        for (int i = 1; i <= 50; i++) {
            check.due("sign", 4 * i, x.sign(0x20202020));
        }
        check.due("sign 201", -1, x.sign(0x61203320));
        check.due("full", 200, x.count(5));
        x.end(197);
        check.due("sign beyond 200", -1, x.sign(0x20202020));
        check.due("none came", 197, x.count(5));
        x.end(196);
        check.due("sign to 200", 200, x.sign(0x20202020));
        // the highest byte comes first, and a byte above 127 is a sign as others
        x = new KickOdds();
        x.sign('a' << 24 | '1' << 16 | ';' << 8 | 'b');
        x.sign('2' << 24 | 0xFF << 16 | 0x2020);
        check.due("byte 255 is a token", -1005, x.teams());
        x.sign(0xE1203320);
        check.due("a sign above 127", -1000, x.teams());
    }

    // 3
    private static void end() {
        KickOdds x = new KickOdds();
        check.due("end(0)", true, x.end(0));
        check.due("end(1)", false, x.end(1));
        check.due("end(-1)", false, x.end(-1));
        x.sign(0x61336162);
        check.due("end(5)", false, x.end(5));
        check.due("end(4)", true, x.end(4));
        check.due("4 signs", 4, x.count(5));
        check.due("end(min)", false, x.end(Integer.MIN_VALUE));
        check.due("end(max)", false, x.end(Integer.MAX_VALUE));
        check.due("end(2)", true, x.end(2));
        check.due("2 signs", 2, x.count(5));
        check.due("end(3)", false, x.end(3));
        Check.write(x, ";b5");
        check.due("cut and gone on", 1, x.teams());
        check.due("skill behind the cut", 5, x.side(1, 10));
    }

    // 4
    private static void fault(int at, String text) {
        check.due("teams " + text, -1000 - at, Check.teams(new KickOdds(), text));
    }

    private static void teams() {
        fault(0, "");
        fault(3, "   ");
        fault(1, "a");
        fault(2, "a ");
        fault(2, "a3");
        fault(3, "a3;");
        fault(5, "a3 ; ");
        fault(2, "a3b3");
        fault(0, "aa3;b3");
        fault(0, "az3;b3");
        fault(0, "c3;b3");
        fault(0, "A3;b3");
        fault(0, ";a3;b3");
        fault(3, "a3;;b3");
        fault(1, "a7;b3");
        fault(2, "a37;b3");
        fault(1, "a-3;b3");
        fault(2, "a -3;b3");
        fault(1, "a;b3");
        fault(6, "a12345");
        fault(6, "a123456;b3");
        fault(6, "a123459;b3");
        fault(6, "a12;b3");
        fault(6, "a3;b12");
        fault(8, "a3;b12  ");
        fault(3, "a3;a3");
        fault(6, "a3;b3;b3");
        fault(12, "a3;b3;behind");
        // of nerves the side is at fault when it comes again, not the word
        fault(23, "a3;b3;behind a1;behind a1");
        fault(21, "a3;b3;ahead a1;ahead a1");
        fault(13, "a3;b3;behind c1");
        fault(13, "a3;b3;behind 1");
        fault(14, "a3;b3;behind a4");
        fault(15, "a3;b3;behind a-4");
        fault(15, "a3;b3;behind a--1");
        fault(15, "a3;b3;behind a-");
        fault(15, "a3;b3;behind a12");
        fault(6, "a3;b3;behinda 1");
        fault(11, "a3;b3;order4");
        fault(11, "a3;b3;order-1");
        fault(12, "a3;b3;order01");
        fault(13, "a3;b3;order0;");
        fault(13, "a3;b3;order0;order0");
        fault(12, "a3;b3;first c");
        fault(12, "a3;b3;first 1");
        fault(14, "a3;b3;first a;first b");
        fault(14, "a3;b3;first a a");
        fault(6, "a3;b3;over 1");
        fault(2, "a3\tb3");
        fault(5, "a3;b3.");
        fault(7, "order 1");
        fault(14, "order 1;first ");
        fault(15, "order 1;first a");
        ok(1, "a3;b3");
        ok(1, "  a  3  ;  b  3  ");
        ok(5, "b01234;a56012");
        ok(2, "first b;order 3;ahead b-3;behind b 3;ahead a 0;behind a-0;a00;b66");
    }

    private static void ok(int n, String text) {
        check.due("teams " + text, n, Check.teams(new KickOdds(), text));
    }

    private static void teamsDone() {
        KickOdds x = Check.of("first b;order 3;ahead b-3;behind b 3;ahead a 2;behind a-0;a01;b66");
        check.due("behind a", 0, x.side(0, 0));
        check.due("ahead a", 2, x.side(0, 1));
        check.due("behind b", 3, x.side(1, 0));
        check.due("ahead b", -3, x.side(1, 1));
        check.due("order", 3, x.count(2));
        check.due("first", 1, x.count(3));
        x.keep(0);
        x.kick(true);
        check.due("fault", -1003, Check.teams(x, "a3;"));
        check.due("a fault empties THE TEXT", 0, x.count(5));
        check.due("a fault leaves the kicks", 1, x.count(1));
        check.due("a fault leaves the acts", 1, x.count(6));
        check.due("a fault leaves the skills", 6, x.side(1, 11));
        check.due("teams", 1, Check.teams(x, "a5;b4"));
        check.due("no kicks", 0, x.count(1));
        check.due("nothing to undo", 0, x.count(6));
        check.due("undo", -3, x.undo());
        check.due("nothing kept", false, x.again(0));
        check.due("order anew", 0, x.count(2));
        check.due("first anew", 0, x.count(3));
        check.due("behind anew", 0, x.side(1, 0));
        check.due("ahead anew", 0, x.side(0, 1));
        check.due("text emptied", 0, x.count(5));
    }

    // 5
    private static void side() {
        KickOdds x = Check.of("a 1 2 3;b 4 5 6;behind a -2;ahead a 1;behind b 3");
        check.due("side(0, 0)", -2, x.side(0, 0));
        check.due("side(0, 1)", 1, x.side(0, 1));
        check.due("side(1, 0)", 3, x.side(1, 0));
        check.due("side(1, 1)", 0, x.side(1, 1));
        check.due("side(0, 10)", 1, x.side(0, 10));
        check.due("side(0, 12)", 3, x.side(0, 12));
        check.due("side(1, 11)", 5, x.side(1, 11));
        Check.play(x, "xoo");
        check.due("goals of a", 1, x.side(0, 2));
        check.due("goals of b", 0, x.side(1, 2));
        check.due("kicks of a", 2, x.side(0, 3));
        check.due("kicks of b", 1, x.side(1, 3));
        int[] others = {-1, 4, 9, 13, 20, Integer.MAX_VALUE, Integer.MIN_VALUE};
        for (int what : others) {
            check.due("side what " + what, NOTHING, x.side(0, what));
        }
        check.due("no such side", NOTHING, x.side(2, 0));
        check.due("no such side", NOTHING, x.side(-1, 0));
    }

    // 6
    private static void kick() {
        KickOdds x = Check.of("a 3 3 3;b 3 3 3");
        check.due("kick", 1, x.kick(true));
        check.due("kick", 0, x.kick(false));
        check.due("kick", 2, x.kick(true));
        check.due("kick", 0, x.kick(false));
        check.due("2 : 0 with one left is over", 1, x.count(4));
        check.due("kick when over", -3, x.kick(true));
        check.due("nothing more to undo by that", 4, x.count(6));
        // over amid a round: a has 0 of 2 and 1 left, b has 2 behind its second kick
        x = Check.of("a 3 3 3;b 3 3 3");
        Check.play(x, "oxox");
        check.due("0 : 2, one left", 1, x.count(4));
        x = Check.of("a 3 3 3;b 3 3 3");
        Check.play(x, "xxoxo");
        check.due("1 : 2 behind all of a", 1, x.count(4));
        // behind ROUND n - 1 level: sudden rounds, over only behind a round
        x = Check.of("a 3;b 3");
        Check.play(x, "xxx");
        check.due("amid a sudden round", 0, x.count(4));
        x.kick(false);
        check.due("behind a sudden round", 1, x.count(4));
        // a chance of 0 does not forbid a goal that comes
        x = Check.of("a 0;b 6");
        check.due("a goal all the same", 1, x.kick(true));
    }

    private static void sixtyKicks() {
        KickOdds x = Check.of("a 3 4;b 3 2;behind b 1");
        for (int i = 0; i < 60; i++) {
            check.due("kick " + i, i / 2 + 1, x.kick(true));
        }
        check.due("61st", -3, x.kick(true));
        check.due("not over", 0, x.count(4));
        check.due("whose turn", 0, x.turn(0));
        check.due("round", 30, x.turn(1));
        check.due("shooter", 0, x.turn(2));
        check.due("chance", 3, x.turn(3));
        check.due("play", -1001, Check.play(x, " x"));
        check.due("play blanks", 0, Check.play(x, "  "));
        check.due("drawn nobody", 7, x.drawn(1, 7, 2));
        check.due("drawn longest", 60, x.drawn(1, 7, 3));
        check.due("needs", -1, x.needs(0));
        check.due("odds go on", 1, x.odds(0, 0) * x.odds(1, 1) + x.odds(1, 0) * x.odds(0, 1)
            == x.odds(0, 1) * x.odds(1, 1) ? 1 : 0);
        check.due("matters goes on", true, x.matters(0) > 0);
        check.due("undo", 19, x.undo());
        check.due("59 kicks", 59, x.count(1));
        StringBuilder all = new StringBuilder();
        for (int i = 0; i < 61; i++) {
            all.append('o');
        }
        check.due("judge 61", -1060, Check.judge(x, all.toString()));
        check.due("judge 60", 60, Check.judge(x, all.substring(1)));
        check.due("judged round", 29, x.judged(3));
        check.due("judged over", 0, x.judged(2));
    }

    // 7
    private static void play() {
        KickOdds x = Check.of("a 3 3;b 3 3");
        check.due("empty", 0, x.play());
        check.due("no act", 0, x.count(6));
        check.due("another sign, nothing done", -1004, Check.play(x, "xox y"));
        check.due("no kicks", 0, x.count(1));
        check.due("X is another sign", -1000, Check.play(x, "X"));
        check.due("text emptied", 0, x.count(5));
        check.due("play", 2, Check.play(x, " x  o "));
        check.due("one act", 1, x.count(6));
        check.due("till over", -1001, Check.play(x, "xox"));
        check.due("those ahead are made", 3, x.count(1));
        check.due("two acts", 2, x.count(6));
        check.due("a goes first", 1, x.made(0));
        check.due("blanks beyond are fine", 0, Check.play(x, "   "));
        check.due("beyond", -1003, Check.play(x, "   x"));
        check.due("another sign comes first", -1002, Check.play(x, "x z"));
        check.due("no act by these", 2, x.count(6));
        check.due("undo", 1, x.undo());
        check.due("back", 2, x.count(1));
    }

    // 8, 9
    private static void judge() {
        KickOdds x = Check.of("a 3 3;b 3 3;first b");
        check.due("judged ahead of any", -1, x.judged(0));
        check.due("fault ahead of any", -1000, Check.judge(x, "?"));
        check.due("still none", -1, x.judged(2));
        check.due("empty", 0, x.judge());
        check.due("0", 0, x.judged(0));
        check.due("1", 0, x.judged(1));
        check.due("2", 0, x.judged(2));
        check.due("no kick, no round", -1, x.judged(3));
        x.kick(false);
        check.due("judge at the start", 3, Check.judge(x, "xo x"));
        check.due("goals of a", 0, x.judged(0));
        check.due("goals of b", 2, x.judged(1));
        check.due("over", 1, x.judged(2));
        check.due("round", 1, x.judged(3));
        check.due("too many", -1003, Check.judge(x, "xoxx"));
        check.due("of the latest without a fault", 2, x.judged(1));
        check.due("another sign comes first", -1004, Check.judge(x, "xoxx!"));
        check.due("nothing is done", 1, x.count(1));
        check.due("no act", 1, x.count(6));
        check.due("text emptied", 0, x.count(5));
        check.due("others", -1, x.judged(4));
        check.due("others", -1, x.judged(-1));
        check.due("sudden", 8, Check.judge(x, "xxxxxxxo"));
        check.due("sudden round", 3, x.judged(3));
        check.due("b won it", 4, x.judged(1));
        Check.teams(x, "a1;b1");
        check.due("teams() forgets no judge()", 4, x.judged(1));
    }

    // 10
    private static void exchange() {
        KickOdds x = Check.of("a 1 2 3;b 4 5 6");
        check.due("exchange", 3, x.exchange(0, 0, 2));
        check.due("then", 3, x.side(0, 10));
        check.due("then", 1, x.side(0, 12));
        check.due("of b", 5, x.exchange(1, 2, 1));
        check.due("then", 6, x.side(1, 11));
        check.due("twice", -1, x.exchange(0, 1, 1));
        check.due("twice, ahead of all else", -1, x.exchange(7, 9, 9));
        check.due("no side", -2, x.exchange(2, 0, 1));
        check.due("no side", -2, x.exchange(-1, 0, 1));
        check.due("no shooter", -2, x.exchange(0, 0, 3));
        check.due("no shooter", -2, x.exchange(0, -1, 0));
        check.due("acts", 2, x.count(6));
        x.kick(true);
        check.due("a kick was made", -3, x.exchange(0, 0, 1));
        check.due("no shooter, a kick was made", -2, x.exchange(0, 0, 5));
        x.undo();
        check.due("again free", 2, x.exchange(0, 0, 1));
    }

    // 11
    private static void order() {
        KickOdds x = Check.of("a 1 2 3;b 4 5 6;order 2");
        check.due("order", 2, x.order(3));
        check.due("order", 3, x.order(3));
        check.due("order", 3, x.order(0));
        check.due("acts", 3, x.count(6));
        check.due("-1", -1, x.order(4));
        check.due("-1", -1, x.order(-1));
        x.kick(true);
        check.due("-3", -3, x.order(1));
        check.due("-1 ahead of -3", -1, x.order(9));
        check.due("-1 ahead of -2", -1, new KickOdds().order(4));
        check.due("-2", -2, new KickOdds().order(0));
    }

    // 12
    private static void first() {
        KickOdds x = Check.of("a 1 2 3;b 4 5 6");
        check.due("first", 0, x.first(1));
        check.due("first", 1, x.first(1));
        check.due("turn", 1, x.turn(0));
        check.due("-2", -2, x.first(2));
        check.due("-2", -2, x.first(-1));
        check.due("acts", 2, x.count(6));
        x.kick(true);
        check.due("-3", -3, x.first(0));
        check.due("-2 ahead of -3", -2, x.first(3));
        check.due("-2", -2, new KickOdds().first(0));
    }

    // 13
    private static void leaders(String setting, String kicks, String sides) {
        KickOdds x = Check.of("a 33333;b 33333;" + setting);
        for (int i = 0; i < kicks.length(); i++) {
            check.due(setting + " kick " + i, sides.charAt(i) - 'a', x.turn(0));
            x.kick(kicks.charAt(i) == 'x');
        }
    }

    private static void turn() {
        leaders("order 0", "oooooooooooo", "abababababab");
        leaders("order 1", "oooooooooooo", "abbaabbaabab");
        leaders("order 2", "oooooooooooo", "abbabaabbaab");
        leaders("order 3", "oooooooooooo", "abbaabbaabab");
        leaders("order 3;first b", "oooooooooooo", "baabbaabbaba");
        leaders("order 2;first b", "oooooooooooooo", "baabab" + "baab" + "baba");
        // behind 1 : 0 b leads; behind 1 : 1 the other one than b, a; behind 1 : 2 a again
        leaders("order 3", "xoxooxox", "abbaabab");
        KickOdds x = Check.of("a 1 2;b 3 4;behind b -2;ahead a 3");
        check.due("chance", 1, x.turn(3));
        x.kick(true);
        check.due("behind", 1, x.turn(3));
        x.kick(false);
        check.due("round", 1, x.turn(1));
        check.due("shooter", 1, x.turn(2));
        check.due("ahead", 5, x.turn(3));
        x.kick(false);
        check.due("4 - 2", 2, x.turn(3));
        x.kick(true);
        check.due("sudden round", 2, x.turn(1));
        check.due("shooter comes round", 0, x.turn(2));
        Check.play(x, "xo");
        for (int what = 0; what < 4; what++) {
            check.due("over", -2, x.turn(what));
        }
        check.due("others", -1, x.turn(4));
        check.due("others", -1, x.turn(-1));
        x = Check.of("a 5;b 2;ahead a 3;behind b -3");
        x.kick(true);
        check.due("put to 0", 0, x.turn(3));
        x = Check.of("a 5 5;b 2 2;ahead a 3;behind b -3");
        Check.play(x, "xo");
        check.due("put to 6", 6, x.turn(3));
    }

    // 14
    private static void odds(KickOdds x, String what, int side, long up, long low) {
        check.fraction(what, up, low, x.odds(side, 0), x.odds(side, 1));
    }

    private static void odds() {
        // a round: a wins 4/6 * 3/6 = 12, b 2/6 * 3/6 = 6 of 36
        KickOdds x = Check.of("a 4;b 3");
        odds(x, "a 4 b 3", 0, 2, 3);
        odds(x, "a 4 b 3", 1, 1, 3);
        x.kick(true);
        odds(x, "behind a goal", 0, 5, 6);
        x.kick(false);
        odds(x, "over", 0, 1, 1);
        odds(x, "over", 1, 0, 1);
        x.undo();
        x.undo();
        x.kick(false);
        odds(x, "behind none", 0, 1, 3);
        // nobody ever wins
        x = Check.of("a 6;b 6");
        odds(x, "endless", 0, 0, 1);
        odds(x, "endless", 1, 0, 1);
        x.kick(false);
        odds(x, "b has it", 1, 1, 1);
        x = Check.of("a 0;b 0");
        odds(x, "endless", 0, 0, 1);
        x.kick(true);
        odds(x, "a has it", 0, 1, 1);
        x = Check.of("a 0 6;b 0 6");
        odds(x, "endless by two", 1, 0, 1);
        // always level in sudden rounds, but a may be lost by nerves in regular ones
        x = Check.of("a 66;b 66");
        odds(x, "endless of two", 0, 0, 1);
        Check.play(x, "xx");
        odds(x, "endless of two, later", 0, 0, 1);
        check.due("what", -1, x.odds(0, 2));
        check.due("what", -1, x.odds(0, -1));
        check.due("side", -1, x.odds(2, 0));
        check.due("side", -1, x.odds(-1, 0));
    }

    private static void oddsInSudden() {
        // shooter 0: level surely (6 : 6), shooter 1: a 3, b 0
        KickOdds x = Check.of("a 63;b 60");
        Check.play(x, "xxoo");
        odds(x, "sudden", 0, 1, 1);
        x.kick(true);
        odds(x, "amid", 0, 1, 1);
        x.undo();
        x.kick(false);
        odds(x, "a missed, b surely does not", 1, 1, 1);
        // amid a sudden round the one who is level wins by a goal: b 3 of 6, then all begins anew
        x = Check.of("a 4;b 3");
        Check.play(x, "xxo");
        odds(x, "level amid a round", 1, 2, 3);
        odds(x, "level amid a round", 0, 1, 3);
        x = Check.of("a 4;b 3;first b");
        Check.play(x, "xxo");
        odds(x, "a may win it now", 0, 8, 9);
    }

    // 15
    private static void matters(KickOdds x, String what, long up, long low) {
        check.fraction(what, up, low, x.matters(0), x.matters(1));
    }

    private static void matters() {
        KickOdds x = Check.of("a 4;b 3");
        // 5/6 less 1/3
        matters(x, "at the start", 1, 2);
        x.kick(true);
        // of b: 1/3 if a goal, else 0
        matters(x, "behind a goal", 1, 3);
        x.kick(false);
        check.due("over", NOTHING, x.matters(0));
        check.due("over", NOTHING, x.matters(1));
        x.undo();
        check.due("what", NOTHING, x.matters(2));
        check.due("what", NOTHING, x.matters(-1));
        check.due("no sides", NOTHING, new KickOdds().matters(0));
        // b is sure of its kicks when behind and surely misses else: a goal of a only brings it back
        x = Check.of("a 0;b 0;behind b 3");
        matters(x, "half of it", 1, 2);
        x = Check.of("a 314;b 603;behind a3;behind b3;ahead b-3;order 3");
        matters(x, "a goal may harm", -163, 1602);
        x = Check.of("a 6;b 6");
        x.kick(true);
        matters(x, "a goal of b leads to the endless", 0, 1);
    }

    // 16
    private static void oddsBy() {
        KickOdds x = Check.of("a 3;b 3;behind b -1");
        check.fraction("a first", 4, 7, x.oddsBy(0, 3, 0, 0), x.oddsBy(0, 3, 0, 1));
        check.fraction("b first", 1, 2, x.oddsBy(0, 3, 1, 0), x.oddsBy(0, 3, 1, 1));
        check.fraction("of b", 3, 7, x.oddsBy(1, 0, 0, 0), x.oddsBy(1, 0, 0, 1));
        x.kick(true);
        check.fraction("at the start", 3, 7, x.oddsBy(1, 0, 0, 0), x.oddsBy(1, 0, 0, 1));
        check.due("nothing is done", 0, x.count(2));
        check.due("side", -1, x.oddsBy(2, 0, 0, 0));
        check.due("order", -1, x.oddsBy(0, 4, 0, 0));
        check.due("order", -1, x.oddsBy(0, -1, 0, 0));
        check.due("first", -1, x.oddsBy(0, 0, 2, 0));
        check.due("first", -1, x.oddsBy(0, 0, -1, 0));
        check.due("what", -1, x.oddsBy(0, 0, 0, 2));
    }

    // 17, 18
    private static void unfairAndFairest() {
        KickOdds x = Check.of("a 3;b 3;behind b -1");
        check.fraction("unfair", 1, 7, x.unfair(2, 0), x.unfair(2, 1));
        check.due("one round, all alike: the first", 0, x.fairest());
        x.first(1);
        check.fraction("by first as it stands", 0, 1, x.unfair(0, 0), x.unfair(0, 1));
        check.due("order", -1, x.unfair(4, 0));
        check.due("order", -1, x.unfair(-1, 0));
        check.due("what", -1, x.unfair(0, 2));
        check.due("what", -1, x.unfair(0, -1));
        x = Check.of("a 4444;b 4444;behind a -2;behind b -2");
        long[] up = new long[4];
        long[] low = new long[4];
        for (int k = 0; k < 4; k++) {
            up[k] = x.unfair(k, 0);
            low[k] = x.unfair(k, 1);
        }
        int fairest = x.fairest();
        for (int k = 0; k < 4; k++) {
            double gap = (double) up[k] / low[k] - (double) up[fairest] / low[fairest];
            check.due("fairest is least", true, k == fairest || gap > 0);
        }
        check.due("taking turns is fairer than one first", true, fairest > 0);
        x.order(2);
        check.due("whatever order stands", fairest, x.fairest());
        check.due("no sides", -1, new KickOdds().fairest());
    }

    // 19
    private static void toss() {
        KickOdds x = Check.of("a 3;b 3;behind b -1");
        check.due("a is better first", 0, x.toss(0, 0));
        check.due("b too", 0, x.toss(1, 1));
        x = Check.of("a 3;b 3;behind b 1");
        check.due("better second", 1, x.toss(1, 0));
        x = Check.of("a 3;b 3");
        check.due("alike", 2, x.toss(1, 3));
        check.due("side", -1, x.toss(2, 0));
        check.due("order", -1, x.toss(0, 4));
        check.due("order", -1, x.toss(0, -1));
        check.due("no sides", -1, new KickOdds().toss(0, 0));
    }

    // 20
    private static void ends() {
        // a scores surely, b never: 2 : 0 behind kick 3 of 4
        KickOdds x = Check.of("a 66;b 00");
        check.due("ends(3)", 1296, x.ends(3));
        check.due("ends(0)", 0, x.ends(0));
        check.due("ends(4)", 0, x.ends(4));
        check.due("ends(5)", -1, x.ends(5));
        check.due("ends(-1)", -1, x.ends(-1));
        // b may score its first: 3 of 6 is 1 : 0, then 2 : 0 or 2 : 1 and over by its last
        x = Check.of("a 66;b 30");
        Check.play(x, "xo");
        check.due("at the start", 648, x.ends(3));
        check.due("at the start", 648, x.ends(4));
        x = Check.of("a 66666;b 66666");
        check.due("none", 60466176, x.ends(0));
        long all = 0;
        x = Check.of("a 12345;b 34543;ahead a 2;behind b -2;order 3");
        for (int k = 0; k <= 10; k++) {
            all += x.ends(k);
        }
        check.due("all ways", 60466176, all);
        check.due("no sides", -1, new KickOdds().ends(0));
    }

    // 21, 22
    private static void score() {
        KickOdds x = Check.of("a 66;b 30");
        check.due("2 : 0", 648, x.score(2, 0));
        check.due("2 : 1", 648, x.score(2, 1));
        check.due("0 : 0", 0, x.score(0, 0));
        check.due("of like ones the least", 20, x.likely());
        check.due("x", -1, x.score(3, 0));
        check.due("x", -1, x.score(-1, 0));
        check.due("y", -1, x.score(0, 3));
        check.due("y", -1, x.score(0, -1));
        x = Check.of("a 66666;b 66666");
        check.due("5 : 5", 60466176, x.score(5, 5));
        check.due("likely", 55, x.likely());
        x = Check.of("a 3;b 3");
        check.due("all alike", 0, x.likely());
        x = Check.of("a 0;b 6");
        check.due("0 : 1", 1, x.likely());
        check.due("no sides", -1, new KickOdds().score(0, 0));
        check.due("no sides", -1, new KickOdds().likely());
    }

    // 23
    private static void mean() {
        KickOdds x = Check.of("a 66;b 30");
        check.fraction("3 or 4", 7, 2, x.mean(0), x.mean(1));
        x.kick(true);
        check.fraction("at the start", 7, 2, x.mean(0), x.mean(1));
        x = Check.of("a 66666;b 00000");
        check.fraction("3 : 0", 6, 1, x.mean(0), x.mean(1));
        x = Check.of("a 66666;b 66666");
        check.fraction("all", 10, 1, x.mean(0), x.mean(1));
        check.due("what", -1, x.mean(2));
        check.due("what", -1, x.mean(-1));
        check.due("no sides", -1, new KickOdds().mean(0));
    }

    // 24
    private static void needs() {
        KickOdds x = Check.of("a 333;b 333");
        check.due("start", -2, x.needs(0));
        check.due("start", -2, x.needs(1));
        x.kick(true);
        // 1 : 0, b has 3 left: a needs 3 more of 2; b has 3 and may make them, a has 2 left
        check.due("a", -2, x.needs(0));
        check.due("b", -2, x.needs(1));
        x.kick(false);
        // b may come to 2
        check.due("a", 2, x.needs(0));
        check.due("b", -2, x.needs(1));
        x.kick(false);
        check.due("a", -2, x.needs(0));
        check.due("b can come to 2, a too", -2, x.needs(1));
        x.kick(false);
        check.due("one more is enough", 1, x.needs(0));
        check.due("side", -1, x.needs(2));
        check.due("side", -1, x.needs(-1));
        x.kick(true);
        check.due("over", -1, x.needs(0));
        x.undo();
        Check.play(x, "ox");
        check.due("sudden", -1, x.needs(0));
        check.due("sudden", -1, x.needs(1));
        x = Check.of("a 3333;b 3333;first b");
        Check.play(x, "oxo");
        // b may come to 2 yet, a has made 1 of 1; b would need 5
        check.due("a by two more", 2, x.needs(0));
        check.due("b not by all", -2, x.needs(1));
        check.due("no sides", -1, new KickOdds().needs(0));
    }

    // 25
    private static void oddsOf() {
        KickOdds x = Check.of("a 12345;b 33333;order 1;behind a -1;ahead b 2");
        KickOdds y = Check.of("a 53142;b 33333;order 1;behind a -1;ahead b 2");
        check.fraction("row 42031", y.odds(0, 0), y.odds(0, 1), x.oddsOf(0, 42031, 0), x.oddsOf(0, 42031, 1));
        check.fraction("row as it is", x.odds(0, 0), x.odds(0, 1), x.oddsOf(0, 1234, 0), x.oddsOf(0, 1234, 1));
        x.kick(true);
        check.fraction("at the start", y.odds(0, 0), y.odds(0, 1), x.oddsOf(0, 42031, 0), x.oddsOf(0, 42031, 1));
        int[] wrong = {-1, 0, 12345, 1233, 11234, 101234, 43215, 234, Integer.MAX_VALUE, Integer.MIN_VALUE};
        for (int row : wrong) {
            check.due("row " + row, -1, x.oddsOf(0, row, 0));
        }
        check.due("what", -1, x.oddsOf(0, 1234, 2));
        check.due("side", -1, x.oddsOf(2, 1234, 0));
        x = Check.of("a 1 5;b 2 3");
        check.due("row 2 of two", -1, x.oddsOf(0, 2, 0));
        check.due("row 01", true, x.oddsOf(0, 1, 0) > 0);
        check.due("row 10", true, x.oddsOf(0, 10, 0) > 0);
        check.due("row 101 of two", -1, x.oddsOf(0, 101, 0));
        check.due("row 10 of one", -1, Check.of("a3;b4").oddsOf(0, 10, 0));
        check.due("no sides", -1, new KickOdds().oddsOf(0, 0, 0));
    }

    private static boolean more(long up, long low, long up2, long low2) {
        return java.math.BigInteger.valueOf(up).multiply(java.math.BigInteger.valueOf(low2))
            .compareTo(java.math.BigInteger.valueOf(up2).multiply(java.math.BigInteger.valueOf(low))) > 0;
    }

    // 26
    private static void best() {
        KickOdds x = Check.of("a 3333;b 1234");
        check.due("all alike: the least", 123, x.best(0));
        x = Check.of("a 14623;b 33333;behind b -2;ahead a 1");
        int best = x.best(0);
        long up = x.oddsOf(0, best, 0);
        long low = x.oddsOf(0, best, 1);
        int rows = 0;
        for (int row = 0; row <= 43210; row++) {
            long u = x.oddsOf(0, row, 0);
            if (u >= 0) {
                rows++;
                long l = x.oddsOf(0, row, 1);
                check.due("none has more", false, more(u, l, up, low));
                check.due("none below has as much", false, row < best && u == up && l == low);
            }
        }
        check.due("rows", 120, rows);
        int bestOfB = x.best(1);
        Check.play(x, "xoxoo");
        check.due("at the start", best, x.best(0));
        check.due("at the start", bestOfB, x.best(1));
        check.due("side", -1, x.best(2));
        check.due("side", -1, x.best(-1));
        check.due("no sides", -1, new KickOdds().best(0));
        x = Check.of("a 4;b 1");
        check.due("one", 0, x.best(1));
    }

    // 27
    private static void climbed() {
        KickOdds x = Check.of("a 3333;b 1234");
        check.due("nothing is more", 123, x.climbed(0, 0));
        check.due("no exchange", 0, x.climbed(0, 1));
        x = Check.of("a 14623;b 33333;behind b -2;ahead a 1");
        int row = x.climbed(0, 0);
        check.due("more than ahead of it", true, more(x.oddsOf(0, row, 0), x.oddsOf(0, row, 1),
            x.odds(0, 0), x.odds(0, 1)));
        check.due("some exchanges", true, x.climbed(0, 1) > 0 && x.climbed(0, 1) < 11);
        x.kick(true);
        check.due("at the start", row, x.climbed(0, 0));
        check.due("what", -1, x.climbed(0, 2));
        check.due("what", -1, x.climbed(0, -1));
        check.due("side", -1, x.climbed(2, 0));
        check.due("no sides", -1, new KickOdds().climbed(0, 0));
    }

    // 28
    private static void rests() {
        KickOdds x = Check.of("a 33;b 44");
        check.due("all alike", 4, x.rests(0));
        check.due("a's", 1, x.rests(1));
        check.due("b's", 1, x.rests(2));
        check.due("others", -1, x.rests(3));
        check.due("others", -1, x.rests(-1));
        x = Check.of("a 3333;b 3333");
        check.due("24 by 24", 576, x.rests(0));
        check.due("a's", 123, x.rests(1));
        x = Check.of("a 66;b 66");
        check.due("nobody wins", 4, x.rests(0));
        x = Check.of("a 33333;b 33333");
        check.due("n is 5", -3, x.rests(0));
        check.due("others, ahead of -3", -1, x.rests(3));
        check.due("no sides", -1, new KickOdds().rests(0));
        // found by trying: each pair has a side that would rather have another row
        x = Check.of(NO_REST);
        check.due("none", 0, x.rests(0));
        check.due("none", -2, x.rests(1));
        check.due("none", -2, x.rests(2));
        x = Check.of("a 14;b 25;behind a -2;order 1");
        int before = x.rests(0);
        int a = x.rests(1);
        x.exchange(0, 0, 1);
        check.due("as many by other numbers", before, x.rests(0));
        x.undo();
        check.due("and back", a, x.rests(1));
        Check.play(x, "ox");
        check.due("at the start", before, x.rests(0));
        check.due("at the start", a, x.rests(1));
    }

    private static final String NO_REST = "a 26;b 05;behind a-1;ahead a2;behind b3;ahead b-1;order 0";

    // 29
    private static void guessed(int l, int r, int s, int up, int low, int up2, int low2) {
        KickOdds x = new KickOdds();
        String call = "guess " + l + " " + r + " " + s;
        check.fraction(call + " goal", up, low, x.guess(l, r, s, 0), x.guess(l, r, s, 1));
        check.fraction(call + " left", up2, low2, x.guess(l, r, s, 2), x.guess(l, r, s, 3));
    }

    private static void guess() {
        guessed(6, 6, 6, 1, 2, 1, 2);
        guessed(6, 6, 2, 5, 6, 1, 2);
        guessed(6, 0, 0, 1, 1, 1, 1);
        guessed(0, 6, 0, 1, 1, 0, 1);
        guessed(3, 3, 0, 1, 2, 1, 1);
        guessed(0, 0, 6, 0, 1, 1, 1);
        guessed(6, 1, 1, 5, 6, 1, 1);
        guessed(1, 6, 1, 5, 6, 0, 1);
        // 4 or 6 by the left, 3 or 1 by the right: the left is never less
        guessed(6, 3, 2, 2, 3, 1, 1);
        // 3 or 5, 4 or 2: the bend is at a half
        guessed(5, 4, 2, 7, 12, 1, 2);
        // 0 or 3, 6 or 2: 4 of 7 to the left
        guessed(3, 6, 4, 3, 7, 4, 7);
        KickOdds x = Check.of("a3;b3");
        int[] wrong = {-1, 7, Integer.MAX_VALUE, Integer.MIN_VALUE};
        for (int v : wrong) {
            check.due("l", -1, x.guess(v, 0, 0, 0));
            check.due("r", -1, x.guess(0, v, 0, 0));
            check.due("s", -1, x.guess(0, 0, v, 0));
            check.due("what", -1, x.guess(0, 0, 0, v == 7 ? 4 : v));
        }
    }

    /** All shares of 1 / 27720 are tried: every bend is at one of them (its lower number is 12 at most). */
    private static void guessByTrying() {
        KickOdds x = new KickOdds();
        int fine = 27720;
        for (int l = 0; l <= 6; l++) {
            for (int r = 0; r <= 6; r++) {
                for (int s = 0; s <= 6; s++) {
                    long most = -1;
                    int share = 0;
                    for (int p = 0; p <= fine; p++) {
                        long byLeft = (long) p * Math.max(0, l - s) + (long) (fine - p) * r;
                        long byRight = (long) p * l + (long) (fine - p) * Math.max(0, r - s);
                        long least = Math.min(byLeft, byRight);
                        if (least >= most) {
                            most = least;
                            share = p;
                        }
                    }
                    Oracle.Frac value = Oracle.Frac.of(most, 6L * fine);
                    Oracle.Frac left = Oracle.Frac.of(share, fine);
                    guessed(l, r, s, (int) value.part(0), (int) value.part(1), (int) left.part(0), (int) left.part(1));
                    check.due("asked again", value.part(0), x.guess(l, r, s, 0));
                }
            }
        }
    }

    // 30
    private static void drawn() {
        KickOdds x = Check.of("a 3;b 3");
        // s becomes 17860 (modulo 6: 4), 711868 (4), 200394 (0), 46264 (4): none, none, a goal of a, none
        check.due("a", 1, x.drawn(5, 1, 0));
        check.due("b", 0, x.drawn(5, 1, 1));
        check.due("nobody", 0, x.drawn(5, 1, 2));
        check.due("kicks", 4, x.drawn(5, 1, 3));
        check.due("all of 100", 100, x.drawn(0, 100, 0) + x.drawn(0, 100, 1) + x.drawn(0, 100, 2));
        check.due("nothing is done", 0, x.count(1));
        check.due("seed", -1, x.drawn(-1, 1, 0));
        check.due("seed", -1, x.drawn(1000000, 1, 0));
        check.due("seed 999999", true, x.drawn(999999, 1, 3) >= 2);
        check.due("n", -1, x.drawn(0, 0, 0));
        check.due("n", -1, x.drawn(0, 101, 0));
        check.due("what", -1, x.drawn(0, 1, 4));
        check.due("what", -1, x.drawn(0, 1, -1));
        Check.play(x, "xo");
        check.due("over already", 9, x.drawn(3, 9, 0));
        check.due("over already", 2, x.drawn(3, 9, 3));
        x = Check.of("a 0;b 0");
        check.due("nobody", 3, x.drawn(1, 3, 2));
        check.due("60", 60, x.drawn(1, 3, 3));
        check.due("-1 ahead of -2", -1, new KickOdds().drawn(0, 0, 0));
        check.due("-2", -2, new KickOdds().drawn(0, 1, 0));
    }

    // 31
    private static void undo() {
        KickOdds x = Check.of("a 3;b 3");
        check.due("none", -3, x.undo());
        for (int i = 0; i < 25; i++) {
            x.first(i % 2);
        }
        check.due("20 at most", 20, x.count(6));
        for (int i = 19; i >= 0; i--) {
            check.due("undo", i, x.undo());
            check.due("first", (i + 4) % 2, x.count(3));
        }
        check.due("none", -3, x.undo());
        check.due("no sides", -2, new KickOdds().undo());
    }

    private static void undoKinds() {
        KickOdds x = Check.of("a 1 2;b 3 4");
        x.keep(1);
        x.exchange(1, 0, 1);
        x.order(2);
        x.first(1);
        x.kick(true);
        Check.play(x, "xo");
        x.again(1);
        check.due("six acts", 6, x.count(6));
        check.due("as kept", 0, x.count(1));
        check.due("undo again()", 5, x.undo());
        check.due("kicks", 3, x.count(1));
        check.due("order", 2, x.count(2));
        check.due("skill", 4, x.side(1, 10));
        check.due("undo play()", 4, x.undo());
        check.due("kicks", 1, x.count(1));
        check.due("undo kick()", 3, x.undo());
        check.due("goals", 0, x.side(1, 2));
        check.due("undo first()", 2, x.undo());
        check.due("first", 0, x.count(3));
        check.due("undo order()", 1, x.undo());
        check.due("order", 0, x.count(2));
        check.due("undo exchange()", 0, x.undo());
        check.due("skill", 3, x.side(1, 10));
        check.due("kept yet", true, x.again(1));
    }

    // 32, 33
    private static void keepAndAgain() {
        KickOdds x = Check.of("a 1 2;b 3 4;behind a 1");
        check.due("nothing kept", false, x.again(0));
        check.due("keep", true, x.keep(0));
        check.due("no act", 0, x.count(6));
        check.due("others", false, x.keep(2));
        check.due("others", false, x.keep(-1));
        check.due("others", false, x.again(2));
        check.due("others", false, x.again(-1));
        check.due("nothing under 1", false, x.again(1));
        x.exchange(0, 0, 1);
        x.order(3);
        x.first(1);
        Check.play(x, "xo");
        x.keep(1);
        check.due("again", true, x.again(0));
        check.due("an act", 5, x.count(6));
        check.due("skill", 1, x.side(0, 10));
        check.due("order", 0, x.count(2));
        check.due("first", 0, x.count(3));
        check.due("kicks", 0, x.count(1));
        check.due("again", true, x.again(1));
        check.due("skill", 2, x.side(0, 10));
        check.due("order", 3, x.count(2));
        check.due("first", 1, x.count(3));
        check.due("kicks", 2, x.count(1));
        check.due("goals", 1, x.side(1, 2));
        check.due("made", 11, x.made(0));
        x.kick(true);
        check.due("kept is not touched", true, x.again(1));
        check.due("kicks", 2, x.count(1));
        x.keep(0);
        x.undo();
        x.again(0);
        check.due("kept anew", 2, x.count(1));
        check.due("no sides", false, new KickOdds().keep(0));
        check.due("no sides", false, new KickOdds().again(0));
    }

    // 34
    private static void made() {
        KickOdds x = Check.of("a 1 2;b 3 4;order 1");
        Check.play(x, "xoxx");
        check.due("made(0)", 1, x.made(0));
        check.due("made(1)", 10, x.made(1));
        check.due("made(2)", 11, x.made(2));
        check.due("made(3)", 1, x.made(3));
        check.due("none", 1, Check.throwsNoSuch(x, 4));
        check.due("none", 1, Check.throwsNoSuch(x, -1));
        check.due("none", 1, Check.throwsNoSuch(x, Integer.MAX_VALUE));
        check.due("none", 1, Check.throwsNoSuch(x, Integer.MIN_VALUE));
        x.undo();
        check.due("none", 1, Check.throwsNoSuch(x, 0));
        check.due("no sides", 1, Check.throwsNoSuch(new KickOdds(), 0));
    }

    // 35
    private static void count() {
        KickOdds x = Check.of("a 1 2;b 3 4;order 1;first b");
        check.due("count(0)", 2, x.count(0));
        check.due("count(2)", 1, x.count(2));
        check.due("count(3)", 1, x.count(3));
        Check.play(x, "xox");
        Check.write(x, "xyz");
        check.due("count(1)", 3, x.count(1));
        check.due("count(4)", 0, x.count(4));
        check.due("count(5)", 3, x.count(5));
        check.due("count(6)", 1, x.count(6));
        check.due("others", -1, x.count(7));
        check.due("others", -1, x.count(-1));
        x.kick(true);
        check.due("count(6)", 2, x.count(6));
        x.end(0);
        check.due("count(5)", 0, x.count(5));
        x = new KickOdds();
        for (int what = 0; what <= 6; what++) {
            check.due("count(" + what + ") without", 0, x.count(what));
        }
        check.due("others without", -1, x.count(7));
    }

    private static void withoutSides() {
        KickOdds x = new KickOdds();
        Check.write(x, "xo");
        check.due("play", -2, x.play());
        check.due("emptied all the same", 0, x.count(5));
        Check.write(x, "x?");
        check.due("judge", -2, x.judge());
        check.due("emptied all the same", 0, x.count(5));
        check.due("judged", -1, x.judged(0));
        check.due("kick", -2, x.kick(false));
        check.due("exchange", -2, x.exchange(0, 0, 1));
        check.due("exchange twice", -1, x.exchange(0, 1, 1));
        check.due("turn", -1, x.turn(0));
        check.due("odds", -1, x.odds(0, 0));
        check.due("oddsBy", -1, x.oddsBy(0, 0, 0, 0));
        check.due("unfair", -1, x.unfair(0, 0));
        check.due("guess asks no sides", 1, x.guess(6, 6, 6, 0));
    }
}
