import java.lang.reflect.Constructor;
import java.lang.reflect.Field;
import java.lang.reflect.Method;
import java.math.BigInteger;
import java.util.Random;

/** The class's own whole numbers and fractions, held against the library's, with digits that lie at their edges. */
public final class NumbersTest {
    private static final int ROOM = 32;
    private static final Random RANDOM = new Random(569);
    private static int wrong;

    private static final Class<?> BIG = inside("Big");
    private static final Class<?> FRACTION = inside("Fraction");
    private static final Constructor<?> NEW_BIG = constructor(BIG, int.class);
    private static final Constructor<?> NEW_FRACTION = constructor(FRACTION);
    private static final Method DIVIDE = method(BIG, "divide", BIG, BIG);
    private static final Method PRODUCT = method(BIG, "product", BIG, BIG);
    private static final Method PLUS = method(BIG, "plus", BIG);
    private static final Method TIMES = method(BIG, "times", int.class);
    private static final Method POWER = method(BIG, "timesPower", int.class, int.class);
    private static final Method BECOME = method(FRACTION, "become", BIG, BIG);
    private static final Field DIGITS = field(BIG, "digits");
    private static final Field SIZE = field(BIG, "size");

    public static void main(String[] args) throws Exception {
        for (int i = 0; i < 20000; i++) {
            sums();
            quotients();
            fractions();
        }
        for (int base = 0; base <= 10; base++) {
            for (int exponent = 0; exponent <= 60; exponent++) {
                Object b = big(BigInteger.valueOf(3));
                POWER.invoke(b, base, exponent);
                due("power", value(b), BigInteger.valueOf(base).pow(exponent).multiply(BigInteger.valueOf(3)));
            }
        }
        System.out.println("numbers: " + wrong + " wrong");
        if (wrong > 0) {
            System.exit(1);
        }
    }

    private static void sums() throws Exception {
        BigInteger a = some(15);
        BigInteger b = some(15);
        Object x = big(a);
        PLUS.invoke(x, big(b));
        due(a + " + " + b, value(x), a.add(b));
        Object p = big(some(31));
        PRODUCT.invoke(p, big(a), big(b));
        due(a + " * " + b, value(p), a.multiply(b));
        int factor = some(1).intValue();
        Object t = big(a);
        TIMES.invoke(t, factor);
        due(a + " * " + factor, value(t), a.multiply(BigInteger.valueOf(factor)));
    }

    private static void quotients() throws Exception {
        BigInteger b = some(15).add(BigInteger.ONE);
        BigInteger a = RANDOM.nextInt(3) == 0 ? b.multiply(some(12)) : some(28);
        if (RANDOM.nextInt(4) == 0) {
            a = a.add(BigInteger.valueOf(RANDOM.nextInt(3) - 1)).abs();
        }
        Object rest = big(a);
        Object quotient = big(some(31));
        DIVIDE.invoke(rest, big(b), quotient);
        due(a + " / " + b, value(quotient), a.divide(b));
        due(a + " % " + b, value(rest), a.mod(b));
    }

    private static void fractions() throws Exception {
        BigInteger common = some(12).add(BigInteger.ONE);
        BigInteger part = common.multiply(some(15));
        BigInteger whole = common.multiply(some(15).add(BigInteger.ONE));
        Object f = NEW_FRACTION.newInstance();
        BECOME.invoke(f, big(part), big(whole));
        BigInteger g = part.gcd(whole);
        due("above of " + part + " by " + whole, value(field(FRACTION, "above").get(f)), part.divide(g));
        due("below of " + part + " by " + whole, value(field(FRACTION, "below").get(f)), whole.divide(g));
    }

    /** A number of at most so many digits to the base 2 to the 30, many of them 0 or the greatest. */
    private static BigInteger some(int most) {
        BigInteger v = BigInteger.ZERO;
        int style = RANDOM.nextInt(3);
        for (int i = RANDOM.nextInt(most + 1); i > 0; i--) {
            int digit = RANDOM.nextInt(1 << 30);
            if (style == 1 || style == 2 && RANDOM.nextBoolean()) {
                digit = RANDOM.nextBoolean() ? (RANDOM.nextBoolean() ? 0 : 1) : (1 << 30) - 1 - RANDOM.nextInt(2);
            }
            v = v.shiftLeft(30).add(BigInteger.valueOf(digit));
        }
        return v;
    }

    private static void due(String what, BigInteger got, BigInteger want) {
        if (!got.equals(want)) {
            wrong++;
            if (wrong < 10) {
                System.out.println(what + " is " + got + ", due is " + want);
            }
        }
    }

    private static Object big(BigInteger v) throws Exception {
        Object b = NEW_BIG.newInstance(ROOM);
        int[] digits = (int[]) DIGITS.get(b);
        // what lies behind the size must not matter
        java.util.Arrays.fill(digits, 12345);
        int size = 0;
        for (BigInteger rest = v; rest.signum() > 0; rest = rest.shiftRight(30)) {
            digits[size++] = rest.intValue() & (1 << 30) - 1;
        }
        SIZE.set(b, size);
        return b;
    }

    private static BigInteger value(Object b) throws Exception {
        int[] digits = (int[]) DIGITS.get(b);
        int size = (int) SIZE.get(b);
        BigInteger v = BigInteger.ZERO;
        for (int i = size - 1; i >= 0; i--) {
            v = v.shiftLeft(30).add(BigInteger.valueOf(digits[i]));
        }
        if (size > 0 && digits[size - 1] == 0) {
            wrong++;
            System.out.println("a highest digit of 0");
        }
        return v;
    }

    private static Class<?> inside(String name) {
        for (Class<?> c : WordOnPost.class.getDeclaredClasses()) {
            if (c.getSimpleName().equals(name)) {
                return c;
            }
        }
        throw new IllegalStateException("no class " + name);
    }

    private static Constructor<?> constructor(Class<?> c, Class<?>... types) {
        try {
            Constructor<?> made = c.getDeclaredConstructor(types);
            made.setAccessible(true);
            return made;
        } catch (NoSuchMethodException e) {
            throw new IllegalStateException(e);
        }
    }

    private static Method method(Class<?> c, String name, Class<?>... types) {
        try {
            Method found = c.getDeclaredMethod(name, types);
            found.setAccessible(true);
            return found;
        } catch (NoSuchMethodException e) {
            throw new IllegalStateException(e);
        }
    }

    private static Field field(Class<?> c, String name) {
        try {
            Field found = c.getDeclaredField(name);
            found.setAccessible(true);
            return found;
        } catch (NoSuchFieldException e) {
            throw new IllegalStateException(e);
        }
    }
}
