import java.math.BigInteger;
import java.util.function.IntSupplier;

/** What the tests by promises share: answers that are due, and refusals that change nothing but STATUS. */
abstract class Due {
    static final int NONE = -1, BAD = -2, NO = -3, FULL = -4, WORSE = -10;

    /** The promise, by its number, that the checks which follow belong to. */
    static String promise = "";
    private static int wrong;
    private static int checks;

    static void due(String call, long got, long want) {
        checks++;
        if (got != want) {
            wrong++;
            System.out.println(promise + ": " + call + " answered " + got + ", due is " + want);
        }
    }

    static void end(String what) {
        System.out.println(checks + " answers by " + what + ", " + wrong + " wrong");
        if (wrong > 0) {
            System.exit(1);
        }
    }

    /** THE FRACTION, limb by limb. */
    static void fraction(WordOnPost x, String call, BigInteger above, BigInteger below) {
        BigInteger divisor = above.gcd(below);
        due(call + " sign", x.part(0), above.signum());
        side(x, call + " above", 0, above.divide(divisor));
        side(x, call + " below", 1, below.divide(divisor));
    }

    static void fraction(WordOnPost x, String call, long above, long below) {
        fraction(x, call, BigInteger.valueOf(above), BigInteger.valueOf(below));
    }

    private static void side(WordOnPost x, String call, int which, BigInteger v) {
        int limbs = (v.bitLength() + 29) / 30;
        due(call + ", limbs", x.part(1 + which), limbs);
        for (int i = 0; i < limbs; i++) {
            due(call + ", limb " + i, x.limb(which, i), v.shiftRight(30 * i).intValue() & 1073741823);
        }
        due(call + ", a limb more", x.limb(which, limbs), NONE);
    }

    static BigInteger power(int base, int exponent) {
        return BigInteger.valueOf(base).pow(exponent);
    }

    static void refused(WordOnPost x, int bad, int no, int full) {
        due("status(0)", x.status(0), bad);
        due("status(1)", x.status(1), no);
        due("status(2)", x.status(2), full);
    }

    /** A refused call: its answer, one more of its reason, and all else as it was. */
    private static void refusal(WordOnPost x, String call, IntSupplier made, int answer, int reason) {
        int[] before = {x.status(0), x.status(1), x.status(2)};
        long digest = x.digest();
        due(call, made.getAsInt(), answer);
        for (int i = 0; i < 3; i++) {
            due(call + ", then status(" + i + ")", x.status(i), before[i] + (i == reason ? 1 : 0));
        }
        due(call + ", then digest()", x.digest(), digest);
    }

    static void bad(WordOnPost x, String call, IntSupplier made) {
        refusal(x, call, made, BAD, 0);
    }

    static void bad(WordOnPost x, String call, IntSupplier made, int answer) {
        refusal(x, call, made, answer, 0);
    }

    static void no(WordOnPost x, String call, IntSupplier made) {
        refusal(x, call, made, NO, 1);
    }

    static void full(WordOnPost x, String call, IntSupplier made) {
        refusal(x, call, made, FULL, 2);
    }

    static WordOnPost withPlaces(int n) {
        WordOnPost x = new WordOnPost();
        for (int i = 0; i < n; i++) {
            x.place(100);
        }
        return x;
    }

    /** Clears a story and types a text, up to eight bytes at once. */
    static void text(WordOnPost x, int story, String text) {
        x.clear(story);
        for (int i = 0; i < text.length(); i += 8) {
            String piece = text.substring(i, Math.min(i + 8, text.length()));
            long v = 0;
            for (int j = 0; j < piece.length(); j++) {
                v = v << 8 | piece.charAt(j);
            }
            x.type(story, v, piece.length());
        }
    }

    static void texts(WordOnPost x, String... texts) {
        for (int story = 0; story < texts.length; story++) {
            text(x, story, texts[story]);
        }
    }

    static void faultOf(WordOnPost x, String text, int want) {
        text(x, 0, text);
        due("fault of '" + text + "'", x.fault(0), want);
    }

    /** The digest as the document says it, of a list of numbers. */
    static long mixed(int... vs) {
        long h = 569;
        for (int v : vs) {
            h = 31 * h + v;
        }
        return h;
    }
}
