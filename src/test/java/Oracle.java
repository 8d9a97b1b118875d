import java.math.BigInteger;
import java.util.ArrayList;
import java.util.List;

/**
 * The document's words once more, as slowly and plainly as they can be said: kicks are a list, every question
 * walks all that may come from it, fractions are of BigIntegers. Nothing of KickOdds is used.
 */
final class Oracle {
    record Frac(BigInteger up, BigInteger low) implements Comparable<Frac> {
        static final Frac ZERO = of(0, 1);
        static final Frac ONE = of(1, 1);

        static Frac of(long up, long low) {
            return make(BigInteger.valueOf(up), BigInteger.valueOf(low));
        }

        static Frac make(BigInteger up, BigInteger low) {
            if (low.signum() < 0) {
                return make(up.negate(), low.negate());
            }
            BigInteger g = up.gcd(low);
            return new Frac(up.divide(g), low.divide(g));
        }

        Frac plus(Frac o) {
            return make(up.multiply(o.low).add(o.up.multiply(low)), low.multiply(o.low));
        }

        Frac minus(Frac o) {
            return plus(new Frac(o.up.negate(), o.low));
        }

        Frac times(Frac o) {
            return make(up.multiply(o.up), low.multiply(o.low));
        }

        Frac over(Frac o) {
            return make(up.multiply(o.low), low.multiply(o.up));
        }

        Frac abs() {
            return new Frac(up.abs(), low);
        }

        @Override
        public int compareTo(Frac o) {
            return up.multiply(o.low).compareTo(o.up.multiply(low));
        }

        long part(int what) {
            return (what == 0 ? up : low).longValueExact();
        }
    }

    record Kick(int side, boolean goal) {
    }

    int n;
    int[][] skill = new int[2][];
    int[] behind = new int[2];
    int[] ahead = new int[2];
    int order;
    int first;
    List<Kick> kicks = new ArrayList<>();

    Oracle copy() {
        Oracle o = new Oracle();
        o.n = n;
        o.skill = new int[][] {skill[0].clone(), skill[1].clone()};
        o.behind = behind.clone();
        o.ahead = ahead.clone();
        o.order = order;
        o.first = first;
        o.kicks = new ArrayList<>(kicks);
        return o;
    }

    Oracle atStart() {
        Oracle o = copy();
        o.kicks.clear();
        return o;
    }

    Oracle with(int newOrder, int newFirst) {
        Oracle o = copy();
        o.order = newOrder;
        o.first = newFirst;
        return o;
    }

    Oracle inRow(int side, int[] row) {
        Oracle o = copy();
        for (int i = 0; i < n; i++) {
            o.skill[side][i] = skill[side][row[i]];
        }
        return o;
    }

    Oracle behindKick(boolean goal) {
        Oracle o = copy();
        o.kicks.add(new Kick(turn(), goal));
        return o;
    }

    int goals(int side, int upTo) {
        int many = 0;
        for (int i = 0; i < upTo; i++) {
            many += kicks.get(i).side() == side && kicks.get(i).goal() ? 1 : 0;
        }
        return many;
    }

    int goals(int side) {
        return goals(side, kicks.size());
    }

    int made(int side) {
        return (int) kicks.stream().filter(k -> k.side() == side).count();
    }

    int round() {
        return kicks.size() / 2;
    }

    int shooter() {
        return round() % n;
    }

    int leader(int round) {
        int other = 1 - first;
        if (round >= n) {
            return first;
        }
        if (order == 0) {
            return first;
        }
        if (order == 1) {
            return round % 2 == 0 ? first : other;
        }
        if (order == 2) {
            long ones = Integer.toBinaryString(round).chars().filter(c -> c == '1').count();
            return ones % 2 == 0 ? first : other;
        }
        int a = goals(0, 2 * round);
        int b = goals(1, 2 * round);
        if (a != b) {
            return a < b ? 0 : 1;
        }
        return round == 0 ? first : 1 - leader(round - 1);
    }

    int turn() {
        int leader = leader(round());
        return kicks.size() % 2 == 0 ? leader : 1 - leader;
    }

    int chance() {
        int side = turn();
        int d = goals(side) - goals(1 - side);
        int c = skill[side][shooter()];
        if (d < 0) {
            c += behind[side];
        }
        if (d > 0) {
            c += ahead[side];
        }
        return Math.max(0, Math.min(6, c));
    }

    boolean over() {
        int a = goals(0);
        int b = goals(1);
        if (kicks.size() <= 2 * n) {
            return a - b > n - made(1) || b - a > n - made(0);
        }
        return kicks.size() % 2 == 0 && a != b;
    }

    int winner() {
        return !over() ? 2 : goals(0) > goals(1) ? 0 : 1;
    }

    Frac odds(int side) {
        if (over()) {
            return winner() == side ? Frac.ONE : Frac.ZERO;
        }
        if (kicks.size() >= 2 * n && kicks.size() % 2 == 0) {
            return sudden(side, shooter());
        }
        Frac goal = Frac.of(chance(), 6);
        Frac none = Frac.of(6 - chance(), 6);
        Frac odds = Frac.ZERO;
        if (chance() > 0) {
            odds = odds.plus(goal.times(behindKick(true).odds(side)));
        }
        if (chance() < 6) {
            odds = odds.plus(none.times(behindKick(false).odds(side)));
        }
        return odds;
    }

    /** v = won in one turn of all shooters + level through all of them * v. */
    Frac sudden(int side, int from) {
        Frac won = Frac.ZERO;
        Frac level = Frac.ONE;
        int second = 1 - first;
        for (int i = 0; i < n; i++) {
            int shooter = (from + i) % n;
            int lead = skill[first][shooter];
            int calm = skill[second][shooter];
            int pressed = Math.max(0, Math.min(6, calm + behind[second]));
            int byFirst = lead * (6 - pressed);
            int bySecond = (6 - lead) * calm;
            won = won.plus(level.times(Frac.of(side == first ? byFirst : bySecond, 36)));
            level = level.times(Frac.of(36 - byFirst - bySecond, 36));
        }
        return level.equals(Frac.ONE) ? Frac.ZERO : won.over(Frac.ONE.minus(level));
    }

    /** What becomes of the ways from the start: by the kick at which it is over (0: none), by a's and b's goals. */
    static final class Ways {
        final long[] ends = new long[11];
        final long[][] scores = new long[6][6];
    }

    Ways ways() {
        Ways w = new Ways();
        long all = 1;
        for (int i = 0; i < 2 * n; i++) {
            all *= 6;
        }
        atStart().walk(w, all);
        return w;
    }

    private void walk(Ways w, long many) {
        if (over() || kicks.size() == 2 * n) {
            w.ends[over() ? kicks.size() : 0] += many;
            w.scores[goals(0)][goals(1)] += many;
            return;
        }
        int c = chance();
        if (c > 0) {
            behindKick(true).walk(w, many / 6 * c);
        }
        if (c < 6) {
            behindKick(false).walk(w, many / 6 * (6 - c));
        }
    }

    /** Tries each number of goals against the other one making all, the goals coming last. */
    int needs(int side) {
        if (over() || kicks.size() >= 2 * n) {
            return -1;
        }
        int left = n - made(side);
        for (int goals = 0; goals <= left; goals++) {
            if (goals(side) + goals > goals(1 - side) + n - made(1 - side)) {
                return goals;
            }
        }
        return -2;
    }

    static List<int[]> rows(int n) {
        List<int[]> rows = new ArrayList<>();
        grow(rows, new int[0], n);
        return rows;
    }

    private static void grow(List<int[]> rows, int[] begun, int n) {
        if (begun.length == n) {
            rows.add(begun);
            return;
        }
        for (int d = 0; d < n; d++) {
            boolean there = false;
            for (int e : begun) {
                there |= e == d;
            }
            if (!there) {
                int[] more = java.util.Arrays.copyOf(begun, begun.length + 1);
                more[begun.length] = d;
                grow(rows, more, n);
            }
        }
    }

    static int digits(int[] row) {
        int v = 0;
        for (int d : row) {
            v = 10 * v + d;
        }
        return v;
    }

    Frac oddsOf(int side, int[] row) {
        return atStart().inRow(side, row).odds(side);
    }

    int best(int side) {
        Frac top = null;
        int answer = -1;
        for (int[] row : rows(n)) {
            Frac f = oddsOf(side, row);
            if (top == null || f.compareTo(top) > 0) {
                top = f;
                answer = digits(row);
            }
        }
        return answer;
    }

    /** The row climbed to, and the exchanges. */
    int[] climbed(int side) {
        int[] row = rows(n).get(0);
        int exchanges = 0;
        while (true) {
            Frac here = oddsOf(side, row);
            Frac top = null;
            int[] to = null;
            for (int i = 0; i < n; i++) {
                for (int j = i + 1; j < n; j++) {
                    int[] other = row.clone();
                    other[i] = row[j];
                    other[j] = row[i];
                    Frac f = oddsOf(side, other);
                    if (top == null || f.compareTo(top) > 0) {
                        top = f;
                        to = other;
                    }
                }
            }
            if (top == null || top.compareTo(here) <= 0) {
                return new int[] {digits(row), exchanges};
            }
            row = to;
            exchanges++;
        }
    }

    /** How many pairs, and the first of them (-2 without). */
    int[] rests() {
        List<int[]> rows = rows(n);
        int m = rows.size();
        Frac[][] ofA = new Frac[m][m];
        Frac[][] ofB = new Frac[m][m];
        for (int a = 0; a < m; a++) {
            for (int b = 0; b < m; b++) {
                Oracle o = atStart().inRow(0, rows.get(a)).inRow(1, rows.get(b));
                ofA[a][b] = o.odds(0);
                ofB[a][b] = o.odds(1);
            }
        }
        int[] answer = {0, -2, -2};
        for (int a = 0; a < m; a++) {
            for (int b = 0; b < m; b++) {
                boolean rest = true;
                for (int other = 0; other < m; other++) {
                    rest &= ofA[other][b].compareTo(ofA[a][b]) <= 0 && ofB[a][other].compareTo(ofB[a][b]) <= 0;
                }
                if (rest && answer[0]++ == 0) {
                    answer[1] = digits(rows.get(a));
                    answer[2] = digits(rows.get(b));
                }
            }
        }
        return answer;
    }

    int[] drawn(int seed, int many) {
        long s = seed;
        int[] answer = new int[4];
        for (int i = 0; i < many; i++) {
            Oracle o = copy();
            while (!o.over() && o.kicks.size() < 60) {
                s = (1103 * s + 12345) % 1000003;
                o.kicks.add(new Kick(o.turn(), s % 6 < o.chance()));
            }
            answer[o.winner()]++;
            answer[3] = Math.max(answer[3], o.kicks.size());
        }
        return answer;
    }
}
