import java.lang.reflect.Constructor;
import java.lang.reflect.Field;
import java.lang.reflect.Method;
import java.math.BigInteger;
import java.util.Random;

/**
 * The class's own fractions, held against big integers. Odds of shoot-outs seldom come so close to one another that
 * the last steps of a comparison decide (promises 18, 19, 26, 27, 28 ask for it), so they are tried here directly.
 */
public final class FractionTest {
    private static final Check check = new Check("FractionTest");
    private static final Random random = new Random(7);
    /** 6 to the 20: no number of a fraction of odds is above it. */
    private static final long MOST = 3656158440062976L;

    private static Method compare;
    private static Constructor<?> maker;
    private static Method put;
    private static Method reduce;
    private static Field up;
    private static Field low;

    public static void main(String[] args) throws ReflectiveOperationException {
        find();
        small();
        large();
        close();
        reduced();
        check.finish();
    }

    private static void find() throws ReflectiveOperationException {
        for (Class<?> inside : KickOdds.class.getDeclaredClasses()) {
            if (inside.getSimpleName().equals("Fraction")) {
                compare = inside.getDeclaredMethod("compareFractions", long.class, long.class, long.class, long.class);
                maker = inside.getDeclaredConstructor();
                put = inside.getDeclaredMethod("put", long.class, long.class);
                reduce = inside.getDeclaredMethod("reduce");
                up = inside.getDeclaredField("up");
                low = inside.getDeclaredField("low");
            }
        }
        compare.setAccessible(true);
        maker.setAccessible(true);
        put.setAccessible(true);
        reduce.setAccessible(true);
        up.setAccessible(true);
        low.setAccessible(true);
    }

    private static BigInteger big(long v) {
        return BigInteger.valueOf(v);
    }

    private static void compared(long p, long q, long r, long s) throws ReflectiveOperationException {
        int want = big(p).multiply(big(s)).compareTo(big(r).multiply(big(q)));
        int got = Integer.signum((Integer) compare.invoke(null, p, q, r, s));
        check.due(p + "/" + q + " against " + r + "/" + s, want, got);
    }

    private static void small() throws ReflectiveOperationException {
        for (int q = 1; q <= 14; q++) {
            for (int s = 1; s <= 14; s++) {
                for (int p = 0; p <= q; p++) {
                    for (int r = 0; r <= s; r++) {
                        compared(p, q, r, s);
                    }
                }
            }
        }
    }

    private static long any() {
        return 1 + (random.nextLong() >>> 1) % (MOST >> random.nextInt(52));
    }

    private static void large() throws ReflectiveOperationException {
        for (int i = 0; i < 50000; i++) {
            long q = any();
            long s = any();
            compared(random.nextLong(q + 1), q, random.nextLong(s + 1), s);
            long times = 1 + random.nextInt(1000);
            long r = random.nextLong(1000);
            long t = r + 1 + random.nextInt(1000);
            compared(r, t, r * times, t * times);
        }
    }

    /** Neighbours among fractions: p s - r q is 1, so all steps but the last are alike. */
    private static void close() throws ReflectiveOperationException {
        for (int i = 0; i < 20000; i++) {
            long p = 0;
            long q = 1;
            long r = 1;
            long s = 1;
            while (q + s < MOST && random.nextInt(60) > 0) {
                if (random.nextBoolean()) {
                    p += r;
                    q += s;
                } else {
                    r += p;
                    s += q;
                }
            }
            compared(p, q, r, s);
            compared(r, s, p, q);
            compared(p, q, p, q);
        }
    }

    private static void reduced() throws ReflectiveOperationException {
        Object fraction = maker.newInstance();
        for (int i = 0; i < 50000; i++) {
            long q = i < 100 ? 1 + i : any();
            long p = random.nextLong(-q, q + 1);
            put.invoke(fraction, p, q);
            reduce.invoke(fraction);
            long g = big(p).gcd(big(q)).longValueExact();
            check.fraction(p + "/" + q + " in lowest terms", p / g, q / g, up.getLong(fraction), low.getLong(fraction));
        }
        put.invoke(fraction, 0L, MOST);
        reduce.invoke(fraction);
        check.fraction("0 by 1", 0, 1, up.getLong(fraction), low.getLong(fraction));
    }
}
