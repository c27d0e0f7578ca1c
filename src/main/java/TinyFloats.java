public final class TinyFloats {
    public static final int BAD_ARG = -1;

    private static final int CODES = 256;
    private static final int SIGN = 128;
    private static final int GREATEST = 119;
    private static final int INFINITE = 120;
    private static final int NONE = 124;

    private static final int TO_NEAREST = 0;
    private static final int UPWARDS = 2;
    private static final int DOWNWARDS = 3;

    private static final int LOST = 1;
    private static final int TOO_GREAT = 2;
    private static final int SENSELESS = 4;
    private static final int BY_ZERO = 8;

    private static final int FROM_LIMIT = 1000000;
    private static final int WHOLE_OF_INFINITE = 1000;
    private static final int WHOLE_OF_NONE = 9999;

    // One is 512 u, and a "fine" size counts in u / 512 = u * u: then the product of two values
    // is a whole fine size, and every midpoint of two neighbouring values is one too.
    private static final int ONE_BITS = 9;
    private static final int FINE_BITS = 9;

    // The greatest size ever rounded is that of from(1000000), below 2^38 fine units.
    private static final int SCALE_LIMIT = 40;
    // The root of the greatest value is below 2^4, so its fine size is below 2^22.
    private static final int ROOT_TOP_BIT = 21;

    private int roundingMode;
    private int collected;
    private int held;

    public TinyFloats() {
        roundingMode = TO_NEAREST;
        collected = 0;
        held = 0;
    }

    public int mode(int m) {
        if (m < 0 || m > DOWNWARDS) {
            return BAD_ARG;
        }
        int before = roundingMode;
        roundingMode = m;
        return before;
    }

    public int notes() {
        return collected;
    }

    public int clear() {
        int before = collected;
        collected = 0;
        return before;
    }

    public int add(int a, int b) {
        if (!isCode(a) || !isCode(b)) {
            return BAD_ARG;
        }
        return sum(a, b);
    }

    public int subtract(int a, int b) {
        if (!isCode(a) || !isCode(b)) {
            return BAD_ARG;
        }
        // A none-number may be turned as well: the sum is 124 whatever its sign.
        return sum(a, b ^ SIGN);
    }

    public int multiply(int a, int b) {
        if (!isCode(a) || !isCode(b)) {
            return BAD_ARG;
        }
        if (isNone(a) || isNone(b)) {
            return NONE;
        }
        if (isInfiniteTimesZero(a, b)) {
            return senseless();
        }
        boolean negative = isNegative(a) != isNegative(b);
        if (isInfinite(a) || isInfinite(b)) {
            return signed(INFINITE, negative);
        }
        long product = size(a) * size(b);
        return rounded(negative, product, false);
    }

    public int divide(int a, int b) {
        if (!isCode(a) || !isCode(b)) {
            return BAD_ARG;
        }
        if (isNone(a) || isNone(b)) {
            return NONE;
        }
        boolean bothZero = isZero(a) && isZero(b);
        boolean bothInfinite = isInfinite(a) && isInfinite(b);
        if (bothZero || bothInfinite) {
            return senseless();
        }
        boolean negative = isNegative(a) != isNegative(b);
        if (isInfinite(a)) {
            return signed(INFINITE, negative);
        }
        if (isInfinite(b)) {
            return signed(0, negative);
        }
        long divisor = size(b);
        if (divisor == 0) {
            collected |= BY_ZERO;
            return signed(INFINITE, negative);
        }
        long dividend = size(a) << (ONE_BITS + FINE_BITS);
        return rounded(negative, dividend / divisor, dividend % divisor != 0);
    }

    public int root(int a) {
        if (!isCode(a)) {
            return BAD_ARG;
        }
        if (isNone(a)) {
            return NONE;
        }
        if (isZero(a)) {
            return a;
        }
        if (isNegative(a)) {
            return senseless();
        }
        if (isInfinite(a)) {
            return a;
        }
        long square = size(a) << (ONE_BITS + 2 * FINE_BITS);
        long side = rootBelow(square);
        return rounded(false, side, side * side != square);
    }

    public int together(int a, int b, int c) {
        if (!isCode(a) || !isCode(b) || !isCode(c)) {
            return BAD_ARG;
        }
        return productAndSum(a, b, c);
    }

    public int compare(int a, int b) {
        if (!isCode(a) || !isCode(b)) {
            return BAD_ARG;
        }
        if (isNone(a) || isNone(b)) {
            return 2;
        }
        int placeOfA = place(a);
        int placeOfB = place(b);
        if (placeOfA == placeOfB) {
            return 0;
        }
        return placeOfA < placeOfB ? -1 : 1;
    }

    public int from(int n) {
        if (n < -FROM_LIMIT || n > FROM_LIMIT) {
            return BAD_ARG;
        }
        boolean negative = n < 0;
        long ones = negative ? -n : n;
        return rounded(negative, ones << (ONE_BITS + FINE_BITS), false);
    }

    public int whole(int a) {
        if (!isCode(a) || isNone(a)) {
            return WHOLE_OF_NONE;
        }
        boolean negative = isNegative(a);
        if (isInfinite(a)) {
            return negative ? -WHOLE_OF_INFINITE : WHOLE_OF_INFINITE;
        }
        boolean away = isAwayFromZero(negative);
        long inUnits = size(a);
        long ones = (inUnits >> ONE_BITS) + stepUp(away, inUnits, ONE_BITS, false);
        return (int) (negative ? -ones : ones);
    }

    public int pile(int a) {
        if (!isCode(a)) {
            return BAD_ARG;
        }
        held = sum(held, a);
        return held;
    }

    public int pileProduct(int a, int b) {
        if (!isCode(a) || !isCode(b)) {
            return BAD_ARG;
        }
        held = productAndSum(a, b, held);
        return held;
    }

    public int store(int a) {
        if (!isCode(a)) {
            return BAD_ARG;
        }
        int before = held;
        held = a;
        return before;
    }

    private static boolean isCode(int a) {
        return a >= 0 && a < CODES;
    }

    private static boolean isNegative(int code) {
        return code >= SIGN;
    }

    private static boolean isZero(int code) {
        return code % SIGN == 0;
    }

    private static boolean isInfinite(int code) {
        return code % SIGN == INFINITE;
    }

    private static boolean isNone(int code) {
        return code % SIGN > INFINITE;
    }

    private static boolean isInfiniteTimesZero(int a, int b) {
        return isInfinite(a) && isZero(b) || isZero(a) && isInfinite(b);
    }

    private static int signed(int code, boolean negative) {
        return negative ? code + SIGN : code;
    }

    // The codes of one sign stand in the order of their sizes, so they can be compared themselves.
    private static int place(int code) {
        int place = code % SIGN;
        return isNegative(code) ? -place : place;
    }

    // The size of a finite code's value, in u.
    private static long size(int code) {
        int exponent = code / 8 % 16;
        int fraction = code % 8;
        if (exponent == 0) {
            return fraction;
        }
        return (8L + fraction) << (exponent - 1);
    }

    private int senseless() {
        collected |= SENSELESS;
        return NONE;
    }

    private int sum(int a, int b) {
        if (isNone(a) || isNone(b)) {
            return NONE;
        }
        boolean infinite = isInfinite(a);
        boolean negative = isNegative(a);
        long fineSize = infinite ? 0 : size(a) << FINE_BITS;
        return sumWith(infinite, negative, fineSize, b);
    }

    private int productAndSum(int a, int b, int c) {
        if (isNone(a) || isNone(b) || isNone(c)) {
            return NONE;
        }
        if (isInfiniteTimesZero(a, b)) {
            return senseless();
        }
        boolean infinite = isInfinite(a) || isInfinite(b);
        boolean negative = isNegative(a) != isNegative(b);
        long fineSize = infinite ? 0 : size(a) * size(b);
        return sumWith(infinite, negative, fineSize, c);
    }

    // The first operand comes in parts, because an exact product has no code.
    private int sumWith(boolean infinite, boolean negative, long fineSize, int c) {
        boolean otherSign = negative != isNegative(c);
        if (infinite) {
            return isInfinite(c) && otherSign ? senseless() : signed(INFINITE, negative);
        }
        if (isInfinite(c)) {
            return c;
        }
        long fineSizeOfC = size(c) << FINE_BITS;
        if (!otherSign) {
            return rounded(negative, fineSize + fineSizeOfC, false);
        }
        if (fineSize == fineSizeOfC) {
            return signed(0, roundingMode == DOWNWARDS);
        }
        if (fineSize > fineSizeOfC) {
            return rounded(negative, fineSize - fineSizeOfC, false);
        }
        return rounded(!negative, fineSizeOfC - fineSize, false);
    }

    // The greatest whole number whose square is not above the given one.
    private static long rootBelow(long square) {
        long side = 0;
        for (int bit = ROOT_TOP_BIT; bit >= 0; bit--) {
            long tried = side + (1L << bit);
            if (tried * tried <= square) {
                side = tried;
            }
        }
        return side;
    }

    // Rounds a finite number to a code and takes the notes; more says that the number's size is
    // above fineSize, by less than one fine unit. An exact 0 keeps its sign and leaves no note.
    private int rounded(boolean negative, long fineSize, boolean more) {
        int scale = 0;
        while (scale < SCALE_LIMIT && fineSize >> (scale + FINE_BITS) >= 16) {
            scale++;
        }
        int cut = scale + FINE_BITS;
        long kept = fineSize >> cut;
        boolean exact = kept << cut == fineSize && !more;
        boolean away = isAwayFromZero(negative);
        // Each scale has eight codes more, so a step from 15 to 16 comes to the next scale's first.
        long code = scale * 8 + kept + stepUp(away, fineSize, cut, more);
        if (!exact || code > GREATEST) {
            collected |= LOST;
        }
        if (code > GREATEST) {
            collected |= TOO_GREAT;
            code = away || roundingMode == TO_NEAREST ? INFINITE : GREATEST;
        }
        return signed((int) code, negative);
    }

    private boolean isAwayFromZero(boolean negative) {
        return roundingMode == (negative ? DOWNWARDS : UPWARDS);
    }

    // 1 if a size whose lowest digits are cut off goes to the next greater one, 0 if it stays;
    // more says that something lies beyond even the digits that are cut off.
    private int stepUp(boolean away, long size, int cut, boolean more) {
        long kept = size >> cut;
        long left = size - (kept << cut);
        if (left == 0 && !more) {
            return 0;
        }
        if (roundingMode != TO_NEAREST) {
            return away ? 1 : 0;
        }
        long half = 1L << (cut - 1);
        if (left == half && !more) {
            return (int) (kept % 2);
        }
        return left >= half ? 1 : 0;
    }
}
