/**
 * The document's terms once more, word for word and by search, over doubles.
 *
 * Doubles hold every sum, product and sum of a product and a code exactly. A quotient or root they
 * round to 53 digits, but one that isn't itself short differs from every value and every middle of
 * two values by far more than that, so it is rounded to the same code.
 */
final class Oracle {
    static final int LOST = 1;
    static final int TOO_GREAT = 2;
    static final int SENSELESS = 4;
    static final int BY_ZERO = 8;

    private static final double U = 1.0 / 512;
    private static final double[] VALUES = values();
    private static final double[] SIZES_AND_FURTHER = sizesAndFurther();

    /** What the last operation has answered and noted. */
    int code;
    int notes;

    private final int mode;

    Oracle(int mode) {
        this.mode = mode;
    }

    static double value(int code) {
        return VALUES[code];
    }

    private static double[] values() {
        double[] values = new double[256];
        for (int code = 0; code < 256; code++) {
            int e = code / 8 % 16;
            int m = code % 8;
            double size = e == 0 ? m * U : (8 + m) * Math.pow(2, e - 1) * U;
            if (e == 15) {
                size = m > 0 ? Double.NaN : Double.POSITIVE_INFINITY;
            }
            values[code] = code >= 128 ? -size : size;
        }
        return values;
    }

    private static double[] sizesAndFurther() {
        double[] sizes = new double[8 + 8 * 40];
        for (int m = 0; m < 8; m++) {
            sizes[m] = m * U;
            for (int k = 0; k < 40; k++) {
                sizes[8 + 8 * k + m] = (8 + m) * Math.pow(2, k) * U;
            }
        }
        return sizes;
    }

    void sum(double a, double b) {
        double x = a + b;
        if (x == 0 && !sameSign(a, b)) {
            set(mode == 3 ? 128 : 0, 0);
        } else {
            result(x, a, b, 0);
        }
    }

    void product(double a, double b) {
        result(a * b, a, b, 0);
    }

    void quotient(double a, double b) {
        result(a / b, a, b, 0);
        if (b == 0 && a != 0 && !Double.isInfinite(a) && !Double.isNaN(a)) {
            notes = BY_ZERO;
        }
    }

    void root(double a) {
        result(Math.sqrt(a), a, 0, 0);
    }

    void together(double a, double b, double c) {
        double product = a * b;
        if (product + c == 0 && !sameSign(product, c)) {
            set(mode == 3 ? 128 : 0, 0);
        } else {
            result(product + c, a, b, c);
        }
    }

    void from(int n) {
        result(n, 0, 0, 0);
    }

    int whole(double x) {
        if (Double.isNaN(x)) {
            return 9999;
        }
        if (Double.isInfinite(x)) {
            return x > 0 ? 1000 : -1000;
        }
        switch (mode) {
            case 0:
                return (int) Math.rint(x);
            case 1:
                return (int) x;
            case 2:
                return (int) Math.ceil(x);
            default:
                return (int) Math.floor(x);
        }
    }

    private void set(int newCode, int newNotes) {
        code = newCode;
        notes = newNotes;
    }

    private static boolean sameSign(double a, double b) {
        return Math.copySign(1, a) == Math.copySign(1, b);
    }

    /** x as the result of an operation on a, b and c: what is not finite and not 0 isn't rounded. */
    private void result(double x, double a, double b, double c) {
        boolean noneNumberIn = Double.isNaN(a) || Double.isNaN(b) || Double.isNaN(c);
        if (Double.isNaN(x)) {
            set(124, noneNumberIn ? 0 : SENSELESS);
        } else if (Double.isInfinite(x)) {
            set(x > 0 ? 120 : 248, 0);
        } else if (x == 0) {
            set(sameSign(x, 1) ? 0 : 128, 0);
        } else {
            int rounded = rounded(x);
            boolean lost = rounded % 128 == 120 || VALUES[rounded] != x;
            set(rounded, (lost ? LOST : 0) + (isTooGreat(x) ? TOO_GREAT : 0));
        }
    }

    private int rounded(double x) {
        int firstOfSign = x < 0 ? 128 : 0;
        int best = -1;
        // Only codes of x's sign: none of the other sign is nearer, and a zero takes x's sign.
        for (int code = firstOfSign; code < firstOfSign + 120; code++) {
            if (isAllowed(VALUES[code], x) && (best < 0 || isBetter(code, best, x))) {
                best = code;
            }
        }
        int infinite = firstOfSign + 120;
        if (best < 0) {
            return infinite;
        }
        if (mode == 0) {
            double toInfinite = Math.abs(Math.copySign(256, x) - x);
            double toBest = Math.abs(VALUES[best] - x);
            if (toInfinite < toBest || toInfinite == toBest && best % 2 != 0) {
                return infinite;
            }
        }
        return best;
    }

    private boolean isAllowed(double value, double x) {
        switch (mode) {
            case 0:
                return true;
            case 1:
                return Math.abs(value) <= Math.abs(x);
            case 2:
                return value >= x;
            default:
                return value <= x;
        }
    }

    private boolean isBetter(int code, int than, double x) {
        switch (mode) {
            case 0:
                double distance = Math.abs(VALUES[code] - x);
                double distanceOfOther = Math.abs(VALUES[than] - x);
                return distance < distanceOfOther || distance == distanceOfOther && code % 2 == 0;
            case 1:
                return Math.abs(VALUES[code]) > Math.abs(VALUES[than]);
            case 2:
                return VALUES[code] < VALUES[than];
            default:
                return VALUES[code] > VALUES[than];
        }
    }

    private boolean isTooGreat(double x) {
        double size = Math.abs(x);
        if (size <= 240) {
            return false;
        }
        int below = 0;
        while (SIZES_AND_FURTHER[below + 1] <= size) {
            below++;
        }
        double lower = SIZES_AND_FURTHER[below];
        double upper = SIZES_AND_FURTHER[below + 1];
        boolean goesUp;
        switch (mode) {
            case 0:
                goesUp = size - lower > upper - size || size - lower == upper - size && below % 2 != 0;
                break;
            case 1:
                goesUp = false;
                break;
            case 2:
                goesUp = size > lower && x > 0;
                break;
            default:
                goesUp = size > lower && x < 0;
                break;
        }
        return (goesUp ? upper : lower) > 240;
    }
}
