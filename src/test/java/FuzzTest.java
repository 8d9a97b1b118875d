import java.lang.management.ManagementFactory;
import java.util.NoSuchElementException;
import java.util.Random;

/** Any calls with any arguments: nothing is thrown but by made(), refusals change nothing, no call makes objects. */
public final class FuzzTest {
    private static final Check check = new Check("FuzzTest");
    private static final Random random = new Random(99);
    private static final int[] EDGES = {Integer.MIN_VALUE, Integer.MAX_VALUE, -1000, -3, -2, -1, 0, 1, 2, 3, 4, 5, 6, 7,
        10, 12, 14, 15, 20, 60, 61, 100, 101, 200, 1234, 43210, 99999, 999999, 1000000};

    public static void main(String[] args) {
        for (int i = 0; i < 600; i++) {
            wildRun(i);
        }
        askingChangesNothing();
        lastCall();
        room();
        check.finish();
    }

    private static int any() {
        int which = random.nextInt(10);
        return which == 0 ? random.nextInt() : which < 4 ? EDGES[random.nextInt(EDGES.length)] : random.nextInt(6);
    }

    private static void wildRun(int number) {
        KickOdds x = new KickOdds();
        for (int i = 0; i < 512; i++) {
            int which = random.nextInt(36);
            try {
                if (which == 35) {
                    writeSomething(x);
                } else {
                    call(x, which, any(), any(), any(), any());
                }
            } catch (NoSuchElementException e) {
                check.due("only made() throws", 33, which);
            } catch (RuntimeException | Error e) {
                check.due("run " + number + " call " + which + " " + e, 0, 1);
            }
        }
    }

    private static void writeSomething(KickOdds x) {
        String[] texts = {"a 3;b 4", "a12345;b54321;order 3;behind b-2", "a66;b66", "a0000;b0000;first b", "xoxx", "x", "o",
            "xoxoxoxoxoxoxoxoxo", " x o ", "a3;b", "xyx", "a123;b456;ahead a-3;ahead b 3;behind a2"};
        String text = texts[random.nextInt(texts.length)];
        x.end(0);
        Check.write(x, text);
        if (random.nextInt(3) > 0) {
            if (text.charAt(0) == 'a') {
                x.teams();
            } else {
                x.play();
            }
        }
    }

    private static long call(KickOdds x, int which, int a, int b, int c, int d) {
        switch (which) {
            case 0: return x.sign(a);
            case 1: return x.end(a) ? 1 : 0;
            case 2: return x.teams();
            case 3: return x.side(a, b);
            case 4: return x.kick((a & 1) == 0);
            case 5: return x.play();
            case 6: return x.judge();
            case 7: return x.judged(a);
            case 8: return x.exchange(a, b, c);
            case 9: return x.order(a);
            case 10: return x.first(a);
            case 11: return x.turn(a);
            case 12: return x.undo();
            case 13: return x.keep(a) ? 1 : 0;
            case 14: return x.again(a) ? 1 : 0;
            case 15: return x.odds(a, b);
            case 16: return x.matters(a);
            case 17: return x.oddsBy(a, b, c, d);
            case 18: return x.unfair(a, b);
            case 19: return x.fairest();
            case 20: return x.toss(a, b);
            case 21: return x.ends(a);
            case 22: return x.score(a, b);
            case 23: return x.likely();
            case 24: return x.mean(a);
            case 25: return x.needs(a);
            case 26: return x.oddsOf(a, b, c);
            case 27: return x.best(a);
            case 28: return x.climbed(a, b);
            case 29: return random.nextInt(20) == 0 ? x.rests(a) : 0;
            case 30: return x.guess(a, b, c, d);
            case 31: return x.drawn(a, b, c);
            case 32: return x.count(a);
            case 33: return x.made(a);
            default: return x.kick(true);
        }
    }

    private static void askingChangesNothing() {
        String[] texts = {"a 3;b 4;order 1", "a1234;b5432;order 3;behind b-2", "a12345;b54321;order 2;ahead a-2;first b"};
        for (String text : texts) {
            KickOdds x = Check.of(text);
            for (int i = 0; i < 12; i++) {
                String before = Check.state(x);
                for (int which = 15; which <= 33; which++) {
                    for (int tries = 0; tries < 12; tries++) {
                        try {
                            call(x, which, any(), any(), any(), any());
                        } catch (NoSuchElementException e) {
                            check.due("only made() throws", 33, which);
                        }
                    }
                }
                x.exchange(0, 1, 1);
                x.exchange(0, 7, 1);
                x.order(4);
                x.first(2);
                x.keep(2);
                x.again(2);
                x.again(1);
                x.play();
                check.due(text + " " + i, true, before.equals(Check.state(x)));
                x.kick(i % 3 == 0);
            }
        }
    }

    /** "An object is used for at most 512 calls after it has been made": the 512th answers as the first would. */
    private static void lastCall() {
        KickOdds x = new KickOdds();
        x.sign(0x61333b62);
        x.sign(0x34202020);
        check.due("call 3, teams()", 1, x.teams());
        for (int call = 4; call <= 508; call++) {
            check.due("call " + call, call % 2 == 0 ? 1 : 0, call % 2 == 0 ? x.kick(true) : x.undo());
        }
        check.due("call 509, undo()", 0, x.undo() + x.count(1));
        check.due("call 511, odds()", 3, x.odds(0, 1));
        check.due("call 512, kick()", 1, x.kick(true));
    }

    /** 512 of the dearest calls make nothing: what is needed is made with the object. */
    private static void room() {
        com.sun.management.ThreadMXBean threads =
            (com.sun.management.ThreadMXBean) ManagementFactory.getThreadMXBean();
        long self = Thread.currentThread().getId();
        KickOdds x = Check.of("a12345;b54321;order 3;behind b-2");
        KickOdds y = Check.of("a1234;b5432;order 3;behind b-2");
        dear(x, y, 2);
        long before = threads.getThreadAllocatedBytes(self);
        long unit = threads.getThreadAllocatedBytes(self) - before;
        before = threads.getThreadAllocatedBytes(self);
        dear(x, y, 12);
        long made = threads.getThreadAllocatedBytes(self) - before;
        check.due("bytes made by calls: " + made, true, made <= unit + 4096);
        before = threads.getThreadAllocatedBytes(self);
        new KickOdds();
        made = threads.getThreadAllocatedBytes(self) - before;
        check.due("bytes made by an object: " + made, true, made <= 60000);
    }

    private static void dear(KickOdds x, KickOdds y, int times) {
        for (int i = 0; i < times; i++) {
            x.sign(0x61336233);
            x.teams();
            x.best(0);
            x.climbed(1, 0);
            x.drawn(1, 100, 0);
            x.likely();
            x.mean(0);
            x.fairest();
            x.matters(0);
            x.guess(1, 2, 3, 0);
            x.sign(0x786f7820);
            x.judge();
            x.sign(0x786f7820);
            x.play();
            x.undo();
            y.exchange(0, 0, 1);
            y.rests(0);
            y.undo();
        }
    }
}
