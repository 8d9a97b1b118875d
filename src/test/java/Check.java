/** What the tests share: due answers are counted and wrong ones printed. */
final class Check {
    private final String name;
    private int right;
    private int wrong;

    Check(String name) {
        this.name = name;
    }

    void due(String what, long want, long got) {
        if (got == want) {
            right++;
            return;
        }
        wrong++;
        if (wrong <= 50) {
            System.out.println(name + ": " + what + " answered " + got + ", due is " + want);
        }
    }

    void due(String what, boolean want, boolean got) {
        due(what, want ? 1 : 0, got ? 1 : 0);
    }

    void fraction(String what, long up, long low, long gotUp, long gotLow) {
        due(what + ", upper", up, gotUp);
        due(what + ", lower", low, gotLow);
    }

    void finish() {
        System.out.println(name + ": " + right + " right, " + wrong + " wrong");
        if (wrong > 0) {
            System.exit(1);
        }
    }

    /** Puts a text of any length into THE TEXT, by four signs and a cut. */
    static void write(KickOdds x, String text) {
        int before = x.count(5);
        for (int p = 0; p < text.length(); p += 4) {
            int v = 0;
            for (int i = 0; i < 4; i++) {
                v = v << 8 | (p + i < text.length() ? text.charAt(p + i) & 255 : 32);
            }
            if (x.sign(v) < 0) {
                throw new IllegalStateException("too long for THE TEXT: " + text);
            }
        }
        x.end(before + text.length());
    }

    static int teams(KickOdds x, String text) {
        write(x, text);
        return x.teams();
    }

    static int play(KickOdds x, String text) {
        write(x, text);
        return x.play();
    }

    static int judge(KickOdds x, String text) {
        write(x, text);
        return x.judge();
    }

    static KickOdds of(String text) {
        KickOdds x = new KickOdds();
        int n = teams(x, text);
        if (n < 1) {
            throw new IllegalStateException(text + " has a fault: " + n);
        }
        return x;
    }
}
