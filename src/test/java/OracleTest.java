import java.util.ArrayList;
import java.util.List;
import java.util.Random;

/** Runs of random acts, each answer held against the Oracle's. */
public final class OracleTest {
    private final Check check = new Check("OracleTest");
    private final Random random = new Random(20261118);
    private Oracle oracle;
    private KickOdds x;
    private String story;
    private final List<Oracle> past = new ArrayList<>();
    private final Oracle[] kept = new Oracle[2];

    public static void main(String[] args) {
        OracleTest t = new OracleTest();
        for (int i = 0; i < 400; i++) {
            t.run(1 + i % 5, 45, false);
        }
        for (int i = 0; i < 60; i++) {
            t.run(1 + i % 2, 140, true);
        }
        for (int i = 0; i < 40; i++) {
            t.askRows(1 + i % 5);
        }
        for (int i = 0; i < 26; i++) {
            t.askRests(i < 20 ? 1 + i % 3 : 4);
        }
        t.check.finish();
    }

    private int pick(int from, int to) {
        return from + random.nextInt(to - from + 1);
    }

    /** A shoot-out, told with its lines in any row; a narrow one has few unlike skills. */
    private void begin(int n, boolean narrow) {
        oracle = new Oracle();
        oracle.n = n;
        List<String> lines = new ArrayList<>();
        for (int side = 0; side < 2; side++) {
            oracle.skill[side] = new int[n];
            StringBuilder line = new StringBuilder(side == 0 ? "a" : "b");
            for (int i = 0; i < n; i++) {
                oracle.skill[side][i] = narrow ? pick(5, 6) : pick(0, 6);
                line.append(random.nextBoolean() ? " " : "").append(oracle.skill[side][i]);
            }
            lines.add(line.toString());
            String name = side == 0 ? "a" : "b";
            if (pick(0, 3) > 0) {
                oracle.behind[side] = pick(-3, 3);
                lines.add("behind " + name + " " + oracle.behind[side]);
            }
            if (pick(0, 3) > 0) {
                oracle.ahead[side] = pick(-3, 3);
                lines.add("ahead " + name + oracle.ahead[side]);
            }
        }
        if (pick(0, 3) > 0) {
            oracle.order = pick(0, 3);
            lines.add("order" + oracle.order);
        }
        if (pick(0, 2) > 0) {
            oracle.first = pick(0, 1);
            lines.add("first " + "ab".charAt(oracle.first));
        }
        java.util.Collections.shuffle(lines, random);
        story = String.join(random.nextBoolean() ? ";" : " ; ", lines);
        x = new KickOdds();
        check.due(story + " teams", n, Check.teams(x, story));
        past.clear();
        kept[0] = null;
        kept[1] = null;
    }

    private void run(int n, int acts, boolean narrow) {
        begin(n, narrow);
        askState();
        askOdds();
        askOrders();
        askWays();
        for (int i = 0; i < acts; i++) {
            act(narrow);
            askState();
            if (i % 3 == 0) {
                askOdds();
            }
            if (i % 20 == 0) {
                askOrders();
                askWays();
                askDrawn();
                askJudge();
            }
        }
    }

    private void remember(Oracle before) {
        past.add(before);
        if (past.size() > 20) {
            past.remove(0);
        }
    }

    private void act(boolean narrow) {
        Oracle before = oracle.copy();
        int which = pick(0, narrow ? 70 : 22);
        if (which == 0) {
            int want = past.isEmpty() ? -3 : past.size() - 1;
            story += " undo";
            check.due(story, want, x.undo());
            if (want >= 0) {
                oracle = past.remove(past.size() - 1);
            }
        } else if (which == 1) {
            int k = pick(0, 1);
            story += " keep" + k;
            check.due(story, true, x.keep(k));
            kept[k] = oracle.copy();
        } else if (which == 2) {
            int k = pick(0, 1);
            story += " again" + k;
            check.due(story, kept[k] != null, x.again(k));
            if (kept[k] != null) {
                oracle = kept[k].copy();
                remember(before);
            }
        } else if (which == 3) {
            exchange(before);
        } else if (which == 4) {
            int k = pick(0, 3);
            story += " order" + k;
            boolean can = oracle.kicks.isEmpty();
            check.due(story, can ? oracle.order : -3, x.order(k));
            if (can) {
                oracle.order = k;
                remember(before);
            }
        } else if (which == 5) {
            int side = pick(0, 1);
            story += " first" + side;
            boolean can = oracle.kicks.isEmpty();
            check.due(story, can ? oracle.first : -3, x.first(side));
            if (can) {
                oracle.first = side;
                remember(before);
            }
        } else if (which <= 8) {
            play(before);
        } else {
            kick(before, narrow);
        }
    }

    private void exchange(Oracle before) {
        int side = pick(0, 1);
        int i = pick(0, oracle.n - 1);
        int j = pick(0, oracle.n - 1);
        story += " exchange" + side + i + j;
        int want = i == j ? -1 : oracle.kicks.isEmpty() ? oracle.skill[side][j] : -3;
        check.due(story, want, x.exchange(side, i, j));
        if (want >= 0) {
            int skill = oracle.skill[side][i];
            oracle.skill[side][i] = oracle.skill[side][j];
            oracle.skill[side][j] = skill;
            remember(before);
        }
    }

    private void kick(Oracle before, boolean narrow) {
        boolean goal = narrow ? oracle.kicks.size() % 2 == 0 || pick(0, 30) > 0 : random.nextBoolean();
        story += goal ? " x" : " o";
        if (oracle.over() || oracle.kicks.size() >= 60) {
            check.due(story, -3, x.kick(goal));
            return;
        }
        int side = oracle.turn();
        oracle = oracle.behindKick(goal);
        check.due(story, oracle.goals(side), x.kick(goal));
        remember(before);
    }

    private String kicksText(int most) {
        StringBuilder b = new StringBuilder();
        int many = pick(0, most);
        for (int i = 0; i < many; i++) {
            b.append(" xo x".charAt(pick(0, 4)));
        }
        if (pick(0, 7) == 0) {
            b.insert(pick(0, b.length()), (char) pick(0, 255));
        }
        return b.toString();
    }

    /** Plays a text on the oracle; what play() or judge() has to answer. */
    private int playOn(Oracle o, String text) {
        for (int p = 0; p < text.length(); p++) {
            if ("xo ".indexOf(text.charAt(p)) < 0) {
                return -1000 - p;
            }
        }
        int many = 0;
        for (int p = 0; p < text.length(); p++) {
            if (text.charAt(p) == ' ') {
                continue;
            }
            if (o.over() || o.kicks.size() == 60) {
                return -1000 - p;
            }
            o.kicks.add(new Oracle.Kick(o.turn(), text.charAt(p) == 'x'));
            many++;
        }
        return many;
    }

    private void play(Oracle before) {
        String text = kicksText(6);
        story += " play(" + text + ")";
        int want = playOn(oracle, text);
        check.due(story, want, Check.play(x, text));
        if (oracle.kicks.size() > before.kicks.size()) {
            remember(before);
        }
    }

    private void askJudge() {
        for (int i = 0; i < 5; i++) {
            String text = kicksText(i == 4 ? 180 : 24);
            Oracle o = oracle.atStart();
            int want = playOn(o, text);
            check.due(story + " judge(" + text + ")", want, Check.judge(x, text));
            if (want >= 0) {
                check.due(story + " judged(0)", o.goals(0), x.judged(0));
                check.due(story + " judged(1)", o.goals(1), x.judged(1));
                check.due(story + " judged(2)", o.over() ? 1 : 0, x.judged(2));
                check.due(story + " judged(3)", want == 0 ? -1 : (want - 1) / 2, x.judged(3));
            }
        }
    }

    private void askState() {
        boolean over = oracle.over();
        check.due(story + " count(0)", oracle.n, x.count(0));
        check.due(story + " count(1)", oracle.kicks.size(), x.count(1));
        check.due(story + " count(2)", oracle.order, x.count(2));
        check.due(story + " count(3)", oracle.first, x.count(3));
        check.due(story + " count(4)", over ? 1 : 0, x.count(4));
        check.due(story + " count(5)", 0, x.count(5));
        check.due(story + " count(6)", past.size(), x.count(6));
        check.due(story + " turn(0)", over ? -2 : oracle.turn(), x.turn(0));
        check.due(story + " turn(1)", over ? -2 : oracle.round(), x.turn(1));
        check.due(story + " turn(2)", over ? -2 : oracle.shooter(), x.turn(2));
        check.due(story + " turn(3)", over ? -2 : oracle.chance(), x.turn(3));
        for (int i = 0; i < oracle.kicks.size(); i++) {
            Oracle.Kick k = oracle.kicks.get(i);
            check.due(story + " made(" + i + ")", 10 * k.side() + (k.goal() ? 1 : 0), x.made(i));
        }
        for (int side = 0; side < 2; side++) {
            check.due(story + " side 0", oracle.behind[side], x.side(side, 0));
            check.due(story + " side 1", oracle.ahead[side], x.side(side, 1));
            check.due(story + " side 2", oracle.goals(side), x.side(side, 2));
            check.due(story + " side 3", oracle.made(side), x.side(side, 3));
            for (int i = 0; i < oracle.n; i++) {
                check.due(story + " side 10 + i", oracle.skill[side][i], x.side(side, 10 + i));
            }
            check.due(story + " needs", oracle.needs(side), x.needs(side));
        }
    }

    private void same(String what, Oracle.Frac f, long up, long low) {
        check.fraction(story + " " + what, f.part(0), f.part(1), up, low);
    }

    private void askOdds() {
        for (int side = 0; side < 2; side++) {
            same("odds", oracle.odds(side), x.odds(side, 0), x.odds(side, 1));
        }
        if (oracle.over()) {
            check.due(story + " matters", Integer.MIN_VALUE, x.matters(0));
        } else {
            int side = oracle.turn();
            Oracle.Frac f = oracle.behindKick(true).odds(side).minus(oracle.behindKick(false).odds(side));
            same("matters", f, x.matters(0), x.matters(1));
        }
    }

    private void askOrders() {
        Oracle start = oracle.atStart();
        int fairest = -1;
        Oracle.Frac least = null;
        for (int order = 0; order < 4; order++) {
            for (int side = 0; side < 2; side++) {
                Oracle.Frac[] by = new Oracle.Frac[2];
                for (int first = 0; first < 2; first++) {
                    by[first] = start.with(order, first).odds(side);
                    same("oddsBy", by[first], x.oddsBy(side, order, first, 0), x.oddsBy(side, order, first, 1));
                }
                int more = by[side].compareTo(by[1 - side]);
                check.due(story + " toss", more > 0 ? 0 : more < 0 ? 1 : 2, x.toss(side, order));
            }
            Oracle o = start.with(order, oracle.first);
            Oracle.Frac unfair = o.odds(0).minus(o.odds(1)).abs();
            same("unfair", unfair, x.unfair(order, 0), x.unfair(order, 1));
            if (least == null || unfair.compareTo(least) < 0) {
                least = unfair;
                fairest = order;
            }
        }
        check.due(story + " fairest", fairest, x.fairest());
    }

    private void askWays() {
        Oracle.Ways w = oracle.ways();
        long all = 0;
        long kicks = 0;
        for (int k = 0; k <= 2 * oracle.n; k++) {
            check.due(story + " ends(" + k + ")", w.ends[k], x.ends(k));
            all += w.ends[k];
            kicks += w.ends[k] * (k == 0 ? 2 * oracle.n : k);
        }
        same("mean", Oracle.Frac.of(kicks, all), x.mean(0), x.mean(1));
        int likely = -1;
        long most = -1;
        for (int i = 0; i <= oracle.n; i++) {
            for (int j = 0; j <= oracle.n; j++) {
                check.due(story + " score", w.scores[i][j], x.score(i, j));
                if (w.scores[i][j] > most) {
                    most = w.scores[i][j];
                    likely = 10 * i + j;
                }
            }
        }
        check.due(story + " likely", likely, x.likely());
    }

    private void askDrawn() {
        int seed = pick(0, 999999);
        int many = pick(1, 40);
        int[] want = oracle.drawn(seed, many);
        for (int what = 0; what < 4; what++) {
            check.due(story + " drawn", want[what], x.drawn(seed, many, what));
        }
    }

    private void askRows(int n) {
        begin(n, random.nextInt(4) == 0);
        List<int[]> rows = Oracle.rows(n);
        for (int side = 0; side < 2; side++) {
            for (int i = 0; i < 6; i++) {
                int[] row = rows.get(random.nextInt(rows.size()));
                int digits = Oracle.digits(row);
                Oracle.Frac f = oracle.oddsOf(side, row);
                same("oddsOf " + digits, f, x.oddsOf(side, digits, 0), x.oddsOf(side, digits, 1));
            }
            check.due(story + " best", oracle.best(side), x.best(side));
            int[] climbed = oracle.climbed(side);
            check.due(story + " climbed(0)", climbed[0], x.climbed(side, 0));
            check.due(story + " climbed(1)", climbed[1], x.climbed(side, 1));
        }
    }

    private void askRests(int n) {
        begin(n, random.nextInt(4) == 0);
        int[] want = oracle.rests();
        for (int what = 0; what < 3; what++) {
            check.due(story + " rests(" + what + ")", want[what], x.rests(what));
        }
        exchange(oracle.copy());
        x.order(oracle.order = pick(0, 3));
        want = n == 4 ? want : oracle.rests();
        if (n < 4) {
            for (int what = 0; what < 3; what++) {
                check.due(story + " then rests(" + what + ")", want[what], x.rests(what));
            }
        }
    }
}
