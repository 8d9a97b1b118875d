/** What the tests share: due answers are counted and wrong ones printed. */
final class Check {
    /** A call whose answer is looked at; a boolean counts 1 or 0. */
    interface Call {
        long on(KickOdds x);
    }

    private final String name;
    private String words = "";
    private int right;
    private int wrong;

    Check(String name) {
        this.name = name;
    }

    /** What comes from here on tests these words of the document; the promise is 1 .. 35. */
    void says(int promise, String sentence) {
        words = "promise " + promise + ", \"" + sentence + "\": ";
    }

    /** Likewise of "Terms" 1 .. 3, and of the words below them (4), which bind every promise. */
    void term(int number, String sentence) {
        words = "Terms " + number + ", \"" + sentence + "\": ";
    }

    void due(String what, long want, long got) {
        if (got == want) {
            right++;
            return;
        }
        wrong++;
        if (wrong <= 50) {
            System.out.println(name + ": " + words + what + " answered " + got + ", due is " + want);
        }
    }

    /** The call answers so on a new object with these sides and kicks, and all is as it was, THE TEXT too. */
    void stays(String what, long want, String sides, String kicks, Call call) {
        KickOdds x = sides.isEmpty() ? new KickOdds() : of(sides);
        for (int i = 0; i < kicks.length(); i++) {
            x.kick(kicks.charAt(i) == 'x');
        }
        write(x, "xo");
        String before = state(x);
        due(what, want, call.on(x));
        due(what + " leaves all as it was: " + before + "| " + state(x), true, before.equals(state(x)));
    }

    void due(String what, boolean want, boolean got) {
        due(what, want ? 1 : 0, got ? 1 : 0);
    }

    void fraction(String what, long up, long low, long gotUp, long gotLow) {
        due(what + ", upper", up, gotUp);
        due(what + ", lower", low, gotLow);
    }

    void finish() {
        System.out.println(name + ": " + right + " right, " + wrong + " wrong");
        if (wrong > 0) {
            System.exit(1);
        }
    }

    /** Puts a text of any length into THE TEXT, by four signs and a cut. */
    static void write(KickOdds x, String text) {
        int before = x.count(5);
        for (int p = 0; p < text.length(); p += 4) {
            int v = 0;
            for (int i = 0; i < 4; i++) {
                v = v << 8 | (p + i < text.length() ? text.charAt(p + i) & 255 : 32);
            }
            if (x.sign(v) < 0) {
                throw new IllegalStateException("too long for THE TEXT: " + text);
            }
        }
        x.end(before + text.length());
    }

    /** All that stands and can be asked without an act, as one text. */
    static String state(KickOdds x) {
        StringBuilder b = new StringBuilder();
        for (int what = 0; what <= 6; what++) {
            b.append(x.count(what)).append(' ');
        }
        for (int what = 0; what < 16; what++) {
            b.append(x.side(0, what)).append(' ').append(x.side(1, what)).append(' ');
        }
        for (int i = 0; i < x.count(1); i++) {
            b.append(x.made(i)).append(' ');
        }
        for (int what = 0; what < 4; what++) {
            b.append(x.turn(what)).append(' ').append(x.judged(what)).append(' ');
        }
        return b.toString();
    }

    /** 1 if made(i) throws NoSuchElementException, 0 if it answers. */
    static int throwsNoSuch(KickOdds x, int i) {
        try {
            x.made(i);
            return 0;
        } catch (java.util.NoSuchElementException e) {
            return 1;
        }
    }

    static int teams(KickOdds x, String text) {
        write(x, text);
        return x.teams();
    }

    static int play(KickOdds x, String text) {
        write(x, text);
        return x.play();
    }

    static int judge(KickOdds x, String text) {
        write(x, text);
        return x.judge();
    }

    static KickOdds of(String text) {
        KickOdds x = new KickOdds();
        int n = teams(x, text);
        if (n < 1) {
            throw new IllegalStateException(text + " has a fault: " + n);
        }
        return x;
    }
}
