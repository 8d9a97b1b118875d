import java.util.NoSuchElementException;

/** A shoot-out of two sides, and what can be said of it exactly; the promises are in DOC.md. */
public final class KickOdds {
    public static final int NONE = -1;
    public static final int NOTHING = Integer.MIN_VALUE;

    private static final int MOST_SHOOTERS = 5;
    private static final int MOST_SKILL = 6;
    private static final int MOST_NERVE = 3;
    private static final int MOST_ORDER = 3;
    private static final int MOST_KICKS = 60;
    private static final int MOST_SIGNS = 200;
    private static final int MOST_UNDONE = 20;
    private static final int MOST_ROWS = 120;
    private static final int MOST_ROWS_AT_REST = 24;
    private static final int KEPT = 2;
    private static final int FAULT = -1000;
    private static final int NO_SIDES = -2;
    private static final int CANNOT = -3;
    private static final int[] FACTORIALS = {1, 1, 2, 6, 24, 120};
    private static final int[] TENS = {1, 10, 100, 1000, 10000, 100000};
    private static final long[] SIXES =
        {1, 6, 36, 216, 1296, 7776, 46656, 279936, 1679616, 10077696, 60466176};

    private final Teller teller = new Teller();
    private final Text text = teller.text;
    private final Shootout now = new Shootout();
    private final Shootout trial = new Shootout();
    private final Past past = new Past();
    private final Shootout[] kept = new Shootout[KEPT];
    private final boolean[] isKept = new boolean[KEPT];
    private final Forecast forecast = new Forecast();
    private final Fraction told = new Fraction();
    private final Fraction top = new Fraction();
    private final Rests atRest = new Rests();
    private final int[] verdict = new int[4];
    private boolean hasVerdict;

    public KickOdds() {
        for (int k = 0; k < kept.length; k++) {
            kept[k] = new Shootout();
        }
    }

    // ---- the text

    public int sign(int v) {
        return text.addFour(v) ? text.length : NONE;
    }

    public boolean end(int n) {
        if (n < 0 || n > text.length) {
            return false;
        }
        text.length = n;
        return true;
    }

    public int teams() {
        int fault = teller.readText();
        text.length = 0;
        if (fault >= 0) {
            return FAULT - fault;
        }
        now.copyFrom(teller.into);
        past.forget();
        atRest.known = false;
        for (int k = 0; k < isKept.length; k++) {
            isKept[k] = false;
        }
        return now.shooters;
    }

    public int side(int side, int what) {
        if (!isSideTold(side)) {
            return NOTHING;
        }
        switch (what) {
            case 0:
                return now.nerveOf(side, false);
            case 1:
                return now.nerveOf(side, true);
            case 2:
                return now.goalsOf(side);
            case 3:
                return now.kicksOf(side);
            default:
                return what >= 10 && what < 10 + now.shooters ? now.skillOf(side, what - 10) : NOTHING;
        }
    }

    // ---- kicks

    public int kick(boolean goal) {
        if (now.shooters == 0) {
            return NO_SIDES;
        }
        if (!now.goesOn()) {
            return CANNOT;
        }
        remember();
        int side = now.kicker();
        now.put(goal);
        return now.goalsOf(side);
    }

    public int play() {
        int answer = now.shooters == 0 ? NO_SIDES : playFromNow();
        text.length = 0;
        return answer;
    }

    public int judge() {
        int answer = now.shooters == 0 ? NO_SIDES : judgeFromStart();
        text.length = 0;
        return answer;
    }

    public int judged(int what) {
        return hasVerdict && what >= 0 && what < verdict.length ? verdict[what] : NONE;
    }

    public int exchange(int side, int i, int j) {
        if (i == j) {
            return -1;
        }
        if (!isSideTold(side) || !isShooter(i) || !isShooter(j)) {
            return NO_SIDES;
        }
        if (now.kicks > 0) {
            return CANNOT;
        }
        remember();
        int skill = now.skillOf(side, i);
        now.setSkill(side, i, now.skillOf(side, j));
        now.setSkill(side, j, skill);
        return now.skillOf(side, i);
    }

    public int order(int k) {
        if (!isOrder(k)) {
            return -1;
        }
        if (now.shooters == 0) {
            return NO_SIDES;
        }
        if (now.kicks > 0) {
            return CANNOT;
        }
        remember();
        int before = now.order;
        now.order = k;
        return before;
    }

    public int first(int side) {
        if (!isSideTold(side)) {
            return NO_SIDES;
        }
        if (now.kicks > 0) {
            return CANNOT;
        }
        remember();
        int before = now.first;
        now.first = side;
        return before;
    }

    public int turn(int what) {
        if (now.shooters == 0 || what < 0 || what > 3) {
            return NONE;
        }
        if (now.isOver()) {
            return -2;
        }
        switch (what) {
            case 0:
                return now.kicker();
            case 1:
                return now.round();
            case 2:
                return now.shooter();
            default:
                return now.chance();
        }
    }

    // ---- odds

    public long odds(int side, int what) {
        if (!isSideTold(side) || !isPart(what)) {
            return NONE;
        }
        forecast.look(now);
        return tellOdds(side, what);
    }

    public long matters(int what) {
        if (now.shooters == 0 || !isPart(what) || now.isOver()) {
            return NOTHING;
        }
        int side = now.kicker();
        trial.copyFrom(now);
        trial.put(true);
        forecast.look(trial);
        told.put(forecast.winsOf(side), forecast.whole);
        trial.copyFrom(now);
        trial.put(false);
        forecast.look(trial);
        told.take(forecast.winsOf(side), forecast.whole);
        told.reduce();
        return told.part(what);
    }

    public long oddsBy(int side, int order, int first, int what) {
        if (!isSideTold(side) || !isOrder(order) || !isSide(first) || !isPart(what)) {
            return NONE;
        }
        lookBy(order, first);
        return tellOdds(side, what);
    }

    public long unfair(int order, int what) {
        if (now.shooters == 0 || !isOrder(order) || !isPart(what)) {
            return NONE;
        }
        lookBy(order, now.first);
        told.put(forecast.gap(), forecast.whole);
        told.reduce();
        return told.part(what);
    }

    public int fairest() {
        if (now.shooters == 0) {
            return NONE;
        }
        int answer = 0;
        for (int order = 0; order <= MOST_ORDER; order++) {
            lookBy(order, now.first);
            told.put(forecast.gap(), forecast.whole);
            if (order == 0 || told.against(top) < 0) {
                top.put(told.up, told.low);
                answer = order;
            }
        }
        return answer;
    }

    public int toss(int side, int order) {
        if (!isSideTold(side) || !isOrder(order)) {
            return NONE;
        }
        lookBy(order, side);
        told.put(forecast.winsOf(side), forecast.whole);
        lookBy(order, 1 - side);
        top.put(forecast.winsOf(side), forecast.whole);
        int more = told.against(top);
        return more > 0 ? 0 : more < 0 ? 1 : 2;
    }

    // ---- when, how

    public long ends(int k) {
        if (now.shooters == 0 || k < 0 || k > 2 * now.shooters) {
            return NONE;
        }
        runFromStart(0);
        return k == 0 ? forecast.level : forecast.endsAt(k);
    }

    public long score(int x, int y) {
        if (now.shooters == 0 || x < 0 || x > now.shooters || y < 0 || y > now.shooters) {
            return NONE;
        }
        runFromStart(1);
        return forecast.scoreAt(x, y);
    }

    public int likely() {
        if (now.shooters == 0) {
            return NONE;
        }
        runFromStart(1);
        int answer = 0;
        long most = -1;
        for (int x = 0; x <= now.shooters; x++) {
            for (int y = 0; y <= now.shooters; y++) {
                long ways = forecast.scoreAt(x, y);
                if (ways > most) {
                    most = ways;
                    answer = 10 * x + y;
                }
            }
        }
        return answer;
    }

    public long mean(int what) {
        if (now.shooters == 0 || !isPart(what)) {
            return NONE;
        }
        runFromStart(0);
        int last = 2 * now.shooters;
        long kicks = forecast.level * last;
        for (int k = 1; k <= last; k++) {
            kicks += forecast.endsAt(k) * k;
        }
        told.put(kicks, sixes(last));
        told.reduce();
        return told.part(what);
    }

    public int needs(int side) {
        if (!isSideTold(side) || now.isOver() || now.kicks >= 2 * now.shooters) {
            return NONE;
        }
        int othersBest = now.goalsOf(1 - side) + now.shooters - now.kicksOf(1 - side);
        int goals = othersBest + 1 - now.goalsOf(side);
        return goals > now.shooters - now.kicksOf(side) ? -2 : goals;
    }

    // ---- orders of shooters

    public long oddsOf(int side, int row, int what) {
        if (!isSideTold(side) || !isPart(what) || !isRow(row, now.shooters)) {
            return NONE;
        }
        takeStart();
        setTrialRow(side, row);
        forecast.look(trial);
        return tellOdds(side, what);
    }

    public int best(int side) {
        if (!isSideTold(side)) {
            return NONE;
        }
        takeStart();
        int answer = NONE;
        int rows = rowsOf(now.shooters);
        for (int number = 0; number < rows; number++) {
            int row = rowAt(number, now.shooters);
            setTrialRow(side, row);
            forecast.look(trial);
            if (number == 0 || forecast.oddsAgainst(side, top) > 0) {
                top.put(forecast.winsOf(side), forecast.whole);
                answer = row;
            }
        }
        return answer;
    }

    public int climbed(int side, int what) {
        if (!isSideTold(side) || !isPart(what)) {
            return NONE;
        }
        takeStart();
        forecast.look(trial);
        top.put(forecast.winsOf(side), forecast.whole);
        int row = rowAt(0, now.shooters);
        int exchanges = 0;
        // each row has more odds than the one ahead of it, so no row comes twice
        while (exchanges < MOST_ROWS) {
            int next = bestExchange(side, row);
            if (next == row) {
                break;
            }
            row = next;
            exchanges++;
        }
        return what == 0 ? row : exchanges;
    }

    public int rests(int what) {
        if (now.shooters == 0 || what < 0 || what > 2) {
            return NONE;
        }
        if (now.shooters >= MOST_SHOOTERS) {
            return CANNOT;
        }
        if (!atRest.known) {
            findRests();
        }
        if (what == 0) {
            return atRest.pairs;
        }
        if (atRest.pairs == 0) {
            return -2;
        }
        return what == 1 ? atRest.rowOfA : atRest.rowOfB;
    }

    // ---- the keeper

    public int guess(int l, int r, int s, int what) {
        if (!isSkill(l) || !isSkill(r) || !isSkill(s) || what < 0 || what > 3) {
            return NONE;
        }
        chooseCorner(l, r, s);
        return (int) (what < 2 ? told.part(what) : top.part(what - 2));
    }

    // ---- drawn

    public int drawn(int seed, int n, int what) {
        if (seed < 0 || seed > 999999 || n < 1 || n > 100 || what < 0 || what > 3) {
            return -1;
        }
        if (now.shooters == 0) {
            return NO_SIDES;
        }
        int s = seed;
        int matching = 0;
        int longest = 0;
        for (int i = 0; i < n; i++) {
            trial.copyFrom(now);
            s = drawTrial(s);
            matching += trial.winner() == what ? 1 : 0;
            longest = Math.max(longest, trial.kicks);
        }
        return what == 3 ? longest : matching;
    }

    // ---- back

    public int undo() {
        if (now.shooters == 0) {
            return NO_SIDES;
        }
        if (!past.popInto(now)) {
            return CANNOT;
        }
        atRest.known = false;
        return past.size;
    }

    public boolean keep(int k) {
        if (k < 0 || k >= KEPT || now.shooters == 0) {
            return false;
        }
        kept[k].copyFrom(now);
        isKept[k] = true;
        return true;
    }

    public boolean again(int k) {
        if (k < 0 || k >= KEPT || !isKept[k]) {
            return false;
        }
        remember();
        now.copyFrom(kept[k]);
        return true;
    }

    public int made(int i) throws NoSuchElementException {
        if (i < 0 || i >= now.kicks) {
            throw new NoSuchElementException("no such kick");
        }
        return 10 * now.sideOfKick(i) + now.goalOfKick(i);
    }

    public int count(int what) {
        switch (what) {
            case 0:
                return now.shooters;
            case 1:
                return now.kicks;
            case 2:
                return now.order;
            case 3:
                return now.first;
            case 4:
                return now.isOver() ? 1 : 0;
            case 5:
                return text.length;
            case 6:
                return past.size;
            default:
                return NONE;
        }
    }

    // ---- what may be asked

    private static boolean isSide(int side) {
        return side == 0 || side == 1;
    }

    private static boolean isPart(int what) {
        return what == 0 || what == 1;
    }

    private static boolean isOrder(int order) {
        return order >= 0 && order <= MOST_ORDER;
    }

    private static boolean isSkill(int skill) {
        return skill >= 0 && skill <= MOST_SKILL;
    }

    private boolean isSideTold(int side) {
        return now.shooters > 0 && isSide(side);
    }

    private boolean isShooter(int i) {
        return i >= 0 && i < now.shooters;
    }

    // ---- acts

    private void remember() {
        past.push(now);
        atRest.known = false;
    }

    private int playFromNow() {
        int strange = text.firstBut("xo ");
        if (strange >= 0) {
            return FAULT - strange;
        }
        trial.copyFrom(now);
        int fault = playTextOnTrial();
        int kicks = trial.kicks - now.kicks;
        if (kicks > 0) {
            remember();
            now.copyFrom(trial);
        }
        return fault >= 0 ? FAULT - fault : kicks;
    }

    private int judgeFromStart() {
        int strange = text.firstBut("xo ");
        if (strange >= 0) {
            return FAULT - strange;
        }
        takeStart();
        int fault = playTextOnTrial();
        if (fault >= 0) {
            return FAULT - fault;
        }
        hasVerdict = true;
        verdict[0] = trial.goalsOf(0);
        verdict[1] = trial.goalsOf(1);
        verdict[2] = trial.isOver() ? 1 : 0;
        verdict[3] = trial.kicks == 0 ? NONE : (trial.kicks - 1) / 2;
        return trial.kicks;
    }

    /** Where the first kick stands that can't be made any more, or NONE. */
    private int playTextOnTrial() {
        for (int p = 0; p < text.length; p++) {
            char c = text.at(p);
            if (c == ' ') {
                continue;
            }
            if (!trial.goesOn()) {
                return p;
            }
            trial.put(c == 'x');
        }
        return NONE;
    }

    private int drawTrial(int seed) {
        int s = seed;
        for (int i = 0; i < MOST_KICKS && trial.goesOn(); i++) {
            s = (1103 * s + 12345) % 1000003;
            trial.put(s % 6 < trial.chance());
        }
        return s;
    }

    // ---- looks at what may come

    private void takeStart() {
        trial.copyFrom(now);
        trial.restart();
    }

    private void lookBy(int order, int first) {
        takeStart();
        trial.order = order;
        trial.first = first;
        forecast.look(trial);
    }

    private void runFromStart(int grow) {
        takeStart();
        forecast.run(trial, grow);
    }

    private long tellOdds(int side, int what) {
        told.put(forecast.winsOf(side), forecast.whole);
        told.reduce();
        return told.part(what);
    }

    private static long sixes(int power) {
        return power >= 0 && power < SIXES.length ? SIXES[power] : 1;
    }

    // ---- rows of shooters, told as digits

    private static int rowsOf(int n) {
        return n >= 0 && n < FACTORIALS.length ? FACTORIALS[n] : 0;
    }

    private static int tens(int power) {
        return power >= 0 && power < TENS.length ? TENS[power] : 1;
    }

    private static int digitAt(int row, int place, int n) {
        int unit = tens(n - 1 - place);
        return unit > 0 ? row / unit % 10 : 0;
    }

    private static boolean isRow(int row, int n) {
        if (row < 0 || row >= tens(n)) {
            return false;
        }
        int seen = 0;
        for (int place = 0; place < n; place++) {
            seen |= 1 << digitAt(row, place, n);
        }
        return seen == (1 << n) - 1;
    }

    /** The row that has so many rows of the same shooters below it. */
    private static int rowAt(int number, int n) {
        int used = 0;
        int row = 0;
        int rest = number;
        for (int place = 0; place < n; place++) {
            int block = rowsOf(n - 1 - place);
            int skip = block > 0 ? rest / block : 0;
            rest -= skip * block;
            int digit = freeDigit(used, skip, n);
            used |= 1 << digit;
            row = 10 * row + digit;
        }
        return row;
    }

    private static int freeDigit(int used, int skip, int n) {
        int left = skip;
        for (int digit = 0; digit < n; digit++) {
            if ((used >> digit & 1) == 0) {
                if (left == 0) {
                    return digit;
                }
                left--;
            }
        }
        return 0;
    }

    private static int swapPlaces(int row, int i, int j, int n) {
        int gap = digitAt(row, j, n) - digitAt(row, i, n);
        return row + gap * tens(n - 1 - i) - gap * tens(n - 1 - j);
    }

    private void setTrialRow(int side, int row) {
        int n = now.shooters;
        for (int place = 0; place < n; place++) {
            trial.setSkill(side, place, now.skillOf(side, digitAt(row, place, n)));
        }
    }

    /** The row behind the best exchange, top having its odds then; the row itself, if none is better. */
    private int bestExchange(int side, int row) {
        int n = now.shooters;
        int answer = row;
        for (int i = 0; i < n; i++) {
            for (int j = i + 1; j < n; j++) {
                int other = swapPlaces(row, i, j, n);
                setTrialRow(side, other);
                forecast.look(trial);
                if (forecast.oddsAgainst(side, top) > 0) {
                    top.put(forecast.winsOf(side), forecast.whole);
                    answer = other;
                }
            }
        }
        return answer;
    }

    private void findRests() {
        takeStart();
        int n = now.shooters;
        int rows = Math.min(rowsOf(n), MOST_ROWS_AT_REST);
        atRest.begin(rows);
        for (int a = 0; a < rows; a++) {
            setTrialRow(0, rowAt(a, n));
            for (int b = 0; b < rows; b++) {
                setTrialRow(1, rowAt(b, n));
                forecast.look(trial);
                atRest.take(a, b, forecast);
            }
        }
        int pair = atRest.firstPair();
        atRest.rowOfA = rowAt(pair / MOST_ROWS_AT_REST, n);
        atRest.rowOfB = rowAt(pair % MOST_ROWS_AT_REST, n);
        atRest.known = true;
    }

    // ---- the keeper's game

    /**
     * Leaves how likely a goal is in told, how likely the left corner is in top. The least that the shooter
     * gets by a share of left kicks is a line that bends once, so its last highest point is the bend or an end.
     */
    private void chooseCorner(int l, int r, int s) {
        int guessedLeft = Math.max(0, l - s);
        int guessedRight = Math.max(0, r - s);
        int lostLeft = l - guessedLeft;
        int lostRight = r - guessedRight;
        int all = lostLeft + lostRight;
        if (all == 0) {
            told.put(Math.max(l, r), 6);
            top.put(l >= r ? 1 : 0, 1);
        } else {
            int atBend = r * all - lostRight * (r - guessedLeft);
            if (guessedLeft * all >= atBend && guessedLeft >= guessedRight) {
                told.put(guessedLeft, 6);
                top.put(1, 1);
            } else if (atBend >= guessedRight * all) {
                told.put(atBend, 6L * all);
                top.put(lostRight, all);
            } else {
                told.put(guessedRight, 6);
                top.put(0, 1);
            }
        }
        told.reduce();
        top.reduce();
    }

    /** THE TEXT. */
    private static final class Text {
        private final char[] signs = new char[MOST_SIGNS];
        private int length;

        boolean addFour(int v) {
            if (length < 0 || length + 4 > signs.length) {
                return false;
            }
            for (int i = 0; i < 4; i++) {
                signs[length + i] = (char) (v >>> 24 - 8 * i & 255);
            }
            length += 4;
            return true;
        }

        /** The sign at p; 0 where there is none. */
        char at(int p) {
            return p >= 0 && p < length && p < signs.length ? signs[p] : 0;
        }

        int firstBut(String allowed) {
            for (int p = 0; p < length; p++) {
                if (allowed.indexOf(at(p)) < 0) {
                    return p;
                }
            }
            return NONE;
        }
    }

    /** Holds THE TEXT and reads two sides out of it. Its methods answer false when its token can't stand there. */
    private static final class Teller {
        private static final int OF_ORDER = 4;
        private static final int OF_FIRST = 8;
        private static final int OF_NERVES = 16;

        private final Text text = new Text();
        private final int[] counts = new int[2];
        private final Shootout into = new Shootout();
        private int start;
        private int stop;
        private int told;

        /** Where the FAULT is, or NONE. */
        int readText() {
            into.forgetAll();
            told = 0;
            counts[0] = 0;
            counts[1] = 0;
            stop = 0;
            advance();
            for (int lines = 0; lines <= MOST_SIGNS; lines++) {
                if (!readLine()) {
                    return start;
                }
                if (start >= text.length) {
                    break;
                }
                if (!isToken(";")) {
                    return start;
                }
                advance();
            }
            if (counts[0] == 0 || counts[0] != counts[1]) {
                return text.length;
            }
            into.shooters = counts[0];
            return NONE;
        }

        private void advance() {
            start = stop;
            while (start < text.length && text.at(start) == ' ') {
                start++;
            }
            stop = start;
            while (stop < text.length && isLetter(text.at(stop))) {
                stop++;
            }
            if (stop == start && stop < text.length) {
                stop++;
            }
        }

        private static boolean isLetter(char c) {
            return c >= 'a' && c <= 'z';
        }

        private boolean isToken(String word) {
            if (stop - start != word.length()) {
                return false;
            }
            for (int i = 0; i < word.length(); i++) {
                if (text.at(start + i) != word.charAt(i)) {
                    return false;
                }
            }
            return true;
        }

        private boolean readLine() {
            int side = sideOfToken();
            if (side >= 0) {
                return markTold(1 << side) && readSkills(side);
            }
            if (isToken("behind")) {
                return readNerve(false);
            }
            if (isToken("ahead")) {
                return readNerve(true);
            }
            if (isToken("order")) {
                return markTold(OF_ORDER) && readOrder();
            }
            return isToken("first") && markTold(OF_FIRST) && readFirst();
        }

        private boolean markTold(int mark) {
            if ((told & mark) != 0) {
                return false;
            }
            told |= mark;
            return true;
        }

        private int sideOfToken() {
            return isToken("a") ? 0 : isToken("b") ? 1 : NONE;
        }

        /** The token as a digit up to a bound, or NONE. */
        private int digitOfToken(int most) {
            int digit = stop - start == 1 ? text.at(start) - '0' : NONE;
            return digit >= 0 && digit <= most ? digit : NONE;
        }

        private boolean readSkills(int side) {
            advance();
            if (side < 0 || side >= counts.length) {
                return false;
            }
            for (int i = 0; i < MOST_SHOOTERS; i++) {
                int skill = digitOfToken(MOST_SKILL);
                if (skill < 0) {
                    // a digit beyond the bound is left to the caller, who wants a ; there
                    return i > 0;
                }
                into.setSkill(side, i, skill);
                counts[side]++;
                advance();
            }
            return true;
        }

        private boolean readNerve(boolean ahead) {
            advance();
            int side = sideOfToken();
            if (side < 0 || !markTold(OF_NERVES << (ahead ? 2 : 0) + side)) {
                return false;
            }
            advance();
            boolean minus = isToken("-");
            if (minus) {
                advance();
            }
            int nerve = digitOfToken(MOST_NERVE);
            if (nerve < 0) {
                return false;
            }
            into.setNerve(side, ahead, minus ? -nerve : nerve);
            advance();
            return true;
        }

        private boolean readOrder() {
            advance();
            int order = digitOfToken(MOST_ORDER);
            if (order < 0) {
                return false;
            }
            into.order = order;
            advance();
            return true;
        }

        private boolean readFirst() {
            advance();
            int side = sideOfToken();
            if (side < 0) {
                return false;
            }
            into.first = side;
            advance();
            return true;
        }
    }

    /** Two sides, who leads by which order, and the kicks that were made; lead is a's goals less b's. */
    private static final class Shootout {
        private int shooters;
        private int order;
        private int first;
        private int kicks;
        private long goalBits;
        private long sideBits;
        private int goalsOfA;
        private int goalsOfB;
        private final int[] nerves = new int[4];
        private final int[] skills = new int[2 * MOST_SHOOTERS];

        void copyFrom(Shootout other) {
            shooters = other.shooters;
            order = other.order;
            first = other.first;
            kicks = other.kicks;
            goalBits = other.goalBits;
            sideBits = other.sideBits;
            goalsOfA = other.goalsOfA;
            goalsOfB = other.goalsOfB;
            for (int i = 0; i < nerves.length; i++) {
                nerves[i] = other.nerves[i];
            }
            for (int i = 0; i < skills.length; i++) {
                skills[i] = other.skills[i];
            }
        }

        void forgetAll() {
            restart();
            shooters = 0;
            order = 0;
            first = 0;
            for (int i = 0; i < nerves.length; i++) {
                nerves[i] = 0;
            }
            for (int i = 0; i < skills.length; i++) {
                skills[i] = 0;
            }
        }

        void restart() {
            kicks = 0;
            goalBits = 0;
            sideBits = 0;
            goalsOfA = 0;
            goalsOfB = 0;
        }

        int skillOf(int side, int shooter) {
            int at = side * MOST_SHOOTERS + shooter;
            return at >= 0 && at < skills.length ? skills[at] : 0;
        }

        void setSkill(int side, int shooter, int skill) {
            int at = side * MOST_SHOOTERS + shooter;
            if (at >= 0 && at < skills.length) {
                skills[at] = skill;
            }
        }

        int nerveOf(int side, boolean ahead) {
            int at = (ahead ? 2 : 0) + side;
            return at >= 0 && at < nerves.length ? nerves[at] : 0;
        }

        void setNerve(int side, boolean ahead, int nerve) {
            int at = (ahead ? 2 : 0) + side;
            if (at >= 0 && at < nerves.length) {
                nerves[at] = nerve;
            }
        }

        int goalsOf(int side) {
            return side == 0 ? goalsOfA : goalsOfB;
        }

        int kicksOf(int side) {
            return kicks / 2 + (kicks % 2 == 1 && sideOfKick(kicks - 1) == side ? 1 : 0);
        }

        int sideOfKick(int i) {
            return (int) (sideBits >>> i & 1);
        }

        int goalOfKick(int i) {
            return (int) (goalBits >>> i & 1);
        }

        int lead() {
            return goalsOfA - goalsOfB;
        }

        int round() {
            return kicks / 2;
        }

        int shooter() {
            return shooters > 0 ? round() % shooters : 0;
        }

        /** The goals in 6 of a kick ahead of which its own side has so many more goals. */
        int chanceOf(int side, int shooter, int ownLead) {
            int chance = skillOf(side, shooter);
            if (ownLead != 0) {
                chance += nerveOf(side, ownLead > 0);
            }
            return chance < 0 ? 0 : chance > MOST_SKILL ? MOST_SKILL : chance;
        }

        int leaderOf(int round, int lead, int leaderBefore) {
            if (round == 0 || round >= shooters) {
                return first;
            }
            switch (order) {
                case 1:
                    return round % 2 == 0 ? first : 1 - first;
                case 2:
                    return Integer.bitCount(round) % 2 == 0 ? first : 1 - first;
                case 3:
                    return lead < 0 ? 0 : lead > 0 ? 1 : 1 - leaderBefore;
                default:
                    return first;
            }
        }

        /** Whether it is OVER behind so many kicks; the leader is that of the round of the last of them. */
        boolean isOverAt(int behind, int lead, int leader) {
            if (behind > 2 * shooters) {
                return behind % 2 == 0 && lead != 0;
            }
            int leftOfLeader = shooters - (behind + 1) / 2;
            int leftOfOther = shooters - behind / 2;
            int leadersLead = leader == 0 ? lead : -lead;
            return leadersLead > leftOfOther || -leadersLead > leftOfLeader;
        }

        boolean isOver() {
            return isOverAt(kicks, lead(), kicks % 2 == 1 ? sideOfKick(kicks - 1) : 0);
        }

        boolean goesOn() {
            return kicks < MOST_KICKS && !isOver();
        }

        /** 0 or 1; 2 as long as it is not OVER. */
        int winner() {
            return !isOver() ? 2 : lead() > 0 ? 0 : 1;
        }

        int leader() {
            if (kicks % 2 == 1) {
                return sideOfKick(kicks - 1);
            }
            return leaderOf(round(), lead(), kicks >= 2 ? sideOfKick(kicks - 2) : first);
        }

        int kicker() {
            return kicks % 2 == 0 ? leader() : 1 - leader();
        }

        int chance() {
            int side = kicker();
            return chanceOf(side, shooter(), side == 0 ? lead() : -lead());
        }

        void put(boolean goal) {
            int side = kicker();
            sideBits |= (long) side << kicks;
            if (goal) {
                goalBits |= 1L << kicks;
                goalsOfA += 1 - side;
                goalsOfB += side;
            }
            kicks++;
        }
    }

    /** The latest shoot-outs ahead of acts. */
    private static final class Past {
        private final Shootout[] ring = new Shootout[MOST_UNDONE];
        private int next;
        private int size;

        Past() {
            for (int i = 0; i < ring.length; i++) {
                ring[i] = new Shootout();
            }
        }

        void forget() {
            size = 0;
        }

        void push(Shootout shootout) {
            if (next < 0 || next >= ring.length) {
                next = 0;
            }
            ring[next].copyFrom(shootout);
            next = (next + 1) % MOST_UNDONE;
            size = Math.min(size + 1, MOST_UNDONE);
        }

        boolean popInto(Shootout shootout) {
            if (size == 0) {
                return false;
            }
            next = next > 0 && next <= ring.length ? next - 1 : ring.length - 1;
            size--;
            shootout.copyFrom(ring[next]);
            return true;
        }
    }

    /** A fraction that stays as it is put till it is reduced; its lower number is above 0. */
    private static final class Fraction {
        private static final int MOST_STEPS = 200;

        private long up;
        private long low = 1;

        void put(long upper, long lower) {
            up = upper;
            low = lower > 0 ? lower : 1;
        }

        /** Of two unlike lower numbers one is 1 here (it is OVER by one of two kicks), so none overflows. */
        void take(long upper, long lower) {
            if (low == lower) {
                up -= upper;
            } else {
                up = up * lower - upper * low;
                low *= lower;
            }
        }

        long part(int what) {
            return what == 0 ? up : low;
        }

        void reduce() {
            long a = low;
            long b = up < 0 ? -up : up;
            for (int i = 0; i < MOST_STEPS && b > 0; i++) {
                long rest = a % b;
                a = b;
                b = rest;
            }
            if (a > 0) {
                up /= a;
                low /= a;
            }
        }

        int against(Fraction other) {
            return compareFractions(up, low, other.up, other.low);
        }

        /** Products of two would overflow, so whole parts are compared, then what is left, upside down. */
        static int compareFractions(long upper, long lower, long upper2, long lower2) {
            long p = upper;
            long q = lower;
            long r = upper2;
            long s = lower2;
            int more = 1;
            for (int i = 0; i < MOST_STEPS && q > 0 && s > 0; i++) {
                long wholes = p / q;
                long wholes2 = r / s;
                if (wholes != wholes2) {
                    return wholes > wholes2 ? more : -more;
                }
                long rest = p - wholes * q;
                long rest2 = r - wholes2 * s;
                if (rest == 0 || rest2 == 0) {
                    return rest == rest2 ? 0 : rest > 0 ? more : -more;
                }
                p = q;
                q = rest;
                r = s;
                s = rest2;
                more = -more;
            }
            return 0;
        }
    }

    /** Counts the ways in which a shoot-out may go on. */
    private static final class Forecast {
        private static final int LEADS = 2 * MOST_SHOOTERS + 1;
        private static final int SCORES = MOST_SHOOTERS + 1;

        private final long[] endWays = new long[2 * MOST_SHOOTERS + 1];
        private final long[] scoreWays = new long[SCORES * SCORES];
        private long[] ways = new long[SCORES * LEADS * 2];
        private long[] waysBehind = new long[SCORES * LEADS * 2];
        private int grow;
        private int last;
        private long wonByA;
        private long wonByB;
        private long level;
        private long endlessA;
        private long endlessB;
        private long endless;
        private long winsOfA;
        private long winsOfB;
        private long whole = 1;

        long winsOf(int side) {
            return side == 0 ? winsOfA : winsOfB;
        }

        long gap() {
            return winsOfA > winsOfB ? winsOfA - winsOfB : winsOfB - winsOfA;
        }

        int oddsAgainst(int side, Fraction other) {
            return Fraction.compareFractions(winsOf(side), whole, other.up, other.low);
        }

        long endsAt(int k) {
            return k >= 0 && k < endWays.length ? endWays[k] : 0;
        }

        long scoreAt(int x, int y) {
            int at = x * SCORES + y;
            return at >= 0 && at < scoreWays.length ? scoreWays[at] : 0;
        }

        /** Wins of both sides from the shoot-out's moment on, of a whole. */
        void look(Shootout shootout) {
            if (shootout.isOver()) {
                winsOfA = shootout.winner() == 0 ? 1 : 0;
                winsOfB = 1 - winsOfA;
                whole = 1;
            } else if (shootout.kicks < 2 * shootout.shooters) {
                run(shootout, 0);
                goEndless(shootout, 0);
                winsOfA = wonByA * endless + level * endlessA;
                winsOfB = wonByB * endless + level * endlessB;
                whole = sixes(last - shootout.kicks) * endless;
            } else {
                lookSudden(shootout);
            }
        }

        private void lookSudden(Shootout shootout) {
            boolean amid = shootout.kicks % 2 == 1;
            goEndless(shootout, shootout.shooter() + (amid ? 1 : 0));
            winsOfA = endlessA;
            winsOfB = endlessB;
            whole = endless;
            if (amid) {
                int second = shootout.kicker();
                int goal = shootout.chance();
                boolean behind = shootout.lead() != 0;
                int goesOn = behind ? goal : 6 - goal;
                int winner = behind ? 1 - second : second;
                winsOfA = goesOn * endlessA + (winner == 0 ? (6 - goesOn) * endless : 0);
                winsOfB = goesOn * endlessB + (winner == 1 ? (6 - goesOn) * endless : 0);
                whole = 6 * endless;
            }
        }

        /** Wins by sudden rounds from a shooter on: all n rounds may be level and come again. */
        private void goEndless(Shootout shootout, int from) {
            int n = shootout.shooters;
            int firstSide = shootout.first;
            long levels = 1;
            long firsts = 0;
            long seconds = 0;
            for (int i = 0; i < n; i++) {
                int shooter = from + i < n ? from + i : from + i - n;
                int goal = shootout.chanceOf(firstSide, shooter, 0);
                int answer = shootout.chanceOf(1 - firstSide, shooter, -1);
                int reply = shootout.chanceOf(1 - firstSide, shooter, 0);
                firsts = 36 * firsts + levels * goal * (6 - answer);
                seconds = 36 * seconds + levels * (6 - goal) * reply;
                levels *= goal * answer + (6 - goal) * (6 - reply);
            }
            endless = sixes(2 * n) - levels;
            if (endless <= 0) {
                // no sudden round is ever won, so both have none of any whole
                endless = 1;
            }
            endlessA = firstSide == 0 ? firsts : seconds;
            endlessB = firstSide == 0 ? seconds : firsts;
        }

        /** All ways of the regular kicks that are left; a's goals are told apart only if grow is 1. */
        void run(Shootout shootout, int growing) {
            grow = growing;
            last = 2 * shootout.shooters;
            clear();
            int from = shootout.kicks;
            if (from >= last) {
                return;
            }
            int lead = shootout.lead();
            add(ways, at(0, lead, shootout.leader()), 1);
            int n = shootout.shooters;
            for (int k = from; k < last; k++) {
                int lowest = Math.max(-n, lead - (k - from));
                int highest = Math.min(n, lead + (k - from));
                for (int goals = 0; goals <= grow * n; goals++) {
                    for (int d = lowest; d <= highest; d++) {
                        leave(shootout, k, goals, d, 0);
                        leave(shootout, k, goals, d, 1);
                    }
                }
                long[] empty = ways;
                ways = waysBehind;
                waysBehind = empty;
            }
        }

        private void clear() {
            wonByA = 0;
            wonByB = 0;
            level = 0;
            for (int i = 0; i < endWays.length; i++) {
                endWays[i] = 0;
            }
            for (int i = 0; i < scoreWays.length && grow > 0; i++) {
                scoreWays[i] = 0;
            }
        }

        private static int at(int goals, int lead, int leader) {
            return (goals * LEADS + lead + MOST_SHOOTERS) * 2 + leader;
        }

        private static void add(long[] row, int at, long more) {
            if (at >= 0 && at < row.length) {
                row[at] += more;
            }
        }

        private void addScore(int goals, int lead, long more) {
            if (grow > 0) {
                add(scoreWays, goals * SCORES + goals - lead, more);
            }
        }

        private void leave(Shootout shootout, int k, int goals, int lead, int leader) {
            int at = at(goals, lead, leader);
            if (at < 0 || at >= ways.length || ways[at] == 0) {
                return;
            }
            long many = ways[at];
            ways[at] = 0;
            int side = k % 2 == 0 ? leader : 1 - leader;
            int chance = shootout.chanceOf(side, k / 2, side == 0 ? lead : -lead);
            if (chance > 0) {
                int goalsThen = side == 0 ? goals + grow : goals;
                int leadThen = side == 0 ? lead + 1 : lead - 1;
                arrive(shootout, k + 1, goalsThen, leadThen, leader, many * chance);
            }
            if (chance < 6) {
                arrive(shootout, k + 1, goals, lead, leader, many * (6 - chance));
            }
        }

        private void arrive(Shootout shootout, int k, int goals, int lead, int leader, long many) {
            if (shootout.isOverAt(k, lead, leader)) {
                long all = many * sixes(last - k);
                wonByA += lead > 0 ? all : 0;
                wonByB += lead < 0 ? all : 0;
                add(endWays, k, all);
                addScore(goals, lead, all);
            } else if (k >= last) {
                level += many;
                addScore(goals, lead, many);
            } else {
                int nextLeader = k % 2 == 0 ? shootout.leaderOf(k / 2, lead, leader) : leader;
                add(waysBehind, at(goals, lead, nextLeader), many);
            }
        }
    }

    /** Odds by all pairs of rows, and which of them are at rest. */
    private static final class Rests {
        private final long[] winsOfA = new long[MOST_ROWS_AT_REST * MOST_ROWS_AT_REST];
        private final long[] winsOfB = new long[MOST_ROWS_AT_REST * MOST_ROWS_AT_REST];
        private final long[] wholes = new long[MOST_ROWS_AT_REST * MOST_ROWS_AT_REST];
        private final int[] bestOfA = new int[MOST_ROWS_AT_REST];
        private final int[] bestOfB = new int[MOST_ROWS_AT_REST];
        private int rows;
        private boolean known;
        private int pairs;
        private int rowOfA;
        private int rowOfB;

        void begin(int many) {
            rows = Math.min(many, MOST_ROWS_AT_REST);
            for (int i = 0; i < MOST_ROWS_AT_REST; i++) {
                bestOfA[i] = NONE;
                bestOfB[i] = NONE;
            }
        }

        void take(int a, int b, Forecast forecast) {
            if (a < 0 || a >= rows || b < 0 || b >= rows) {
                return;
            }
            int pair = a * MOST_ROWS_AT_REST + b;
            winsOfA[pair] = forecast.winsOfA;
            winsOfB[pair] = forecast.winsOfB;
            wholes[pair] = forecast.whole;
            if (bestOfA[b] < 0 || compareOdds(winsOfA, pair, bestOfA[b]) > 0) {
                bestOfA[b] = pair;
            }
            if (bestOfB[a] < 0 || compareOdds(winsOfB, pair, bestOfB[a]) > 0) {
                bestOfB[a] = pair;
            }
        }

        private int compareOdds(long[] wins, int pair, int other) {
            if (pair < 0 || pair >= wins.length || other < 0 || other >= wins.length) {
                return 0;
            }
            return Fraction.compareFractions(wins[pair], wholes[pair], wins[other], wholes[other]);
        }

        /** Counts the pairs at rest; the first of them (0, if there is none). */
        int firstPair() {
            pairs = 0;
            int answer = 0;
            for (int a = 0; a < rows; a++) {
                for (int b = 0; b < rows; b++) {
                    int pair = a * MOST_ROWS_AT_REST + b;
                    if (compareOdds(winsOfA, pair, bestOfA[b]) == 0 && compareOdds(winsOfB, pair, bestOfB[a]) == 0) {
                        answer = pairs == 0 ? pair : answer;
                        pairs++;
                    }
                }
            }
            return answer;
        }
    }
}
