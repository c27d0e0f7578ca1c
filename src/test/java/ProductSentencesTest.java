/** The sentences of promises 7 and 8: multiply and divide. */
public final class ProductSentencesTest {
    private static final Sentences DOC = new Sentences("ProductSentencesTest");

    public static void main(String[] args) {
        DOC.under("Promise 7");
        theProduct();
        infiniteTimesZero();
        infiniteTimesOthers();
        productsThatAreZero();
        roundedProducts();
        multiplyRefused();
        DOC.under("Promise 8");
        theQuotient();
        senselessQuotients();
        infiniteByOthers();
        othersByInfinite();
        zeroByOthers();
        byZero();
        roundedQuotients();
        divideRefused();
        DOC.finish();
    }

    /** The call on two sizes in all four signs: its answer is negative if exactly one operand is. */
    private static void inAllSigns(String name, int a, int b, int wantSize, int wantNotes) {
        DOC.inAllModes(Calls.text(name, a, b), wantSize, wantNotes);
        DOC.inAllModes(Calls.text(name, a + 128, b), wantSize + 128, wantNotes);
        DOC.inAllModes(Calls.text(name, a, b + 128), wantSize + 128, wantNotes);
        DOC.inAllModes(Calls.text(name, a + 128, b + 128), wantSize, wantNotes);
    }

    private static void senselessInAllSigns(String name, int a, int b) {
        DOC.inAllModes(Calls.text(name, a, b), 124, 4);
        DOC.inAllModes(Calls.text(name, a + 128, b), 124, 4);
        DOC.inAllModes(Calls.text(name, a, b + 128), 124, 4);
        DOC.inAllModes(Calls.text(name, a + 128, b + 128), 124, 4);
    }

    private static void theProduct() {
        DOC.sentence("The product; its sign is negative if exactly one operand's is.");
        inAllSigns("multiply", 60, 64, 68, 0);
        inAllSigns("multiply", 119, 56, 119, 0);
        inAllSigns("multiply", 56, 1, 1, 0);
        inAllSigns("multiply", 87, 88, 119, 0);
        inAllSigns("multiply", 8, 48, 4, 0);
        inAllSigns("multiply", 2, 48, 1, 0);
    }

    private static void infiniteTimesZero() {
        DOC.sentence("Infinite times zero is senseless");
        senselessInAllSigns("multiply", 120, 0);
        senselessInAllSigns("multiply", 0, 120);
    }

    private static void infiniteTimesOthers() {
        DOC.sentence("infinite times others is infinite");
        for (int size : Sentences.SIZES_AT_EDGES) {
            inAllSigns("multiply", 120, size, 120, 0);
            inAllSigns("multiply", size, 120, 120, 0);
        }
        inAllSigns("multiply", 120, 120, 120, 0);
    }

    private static void productsThatAreZero() {
        DOC.sentence("an exact product 0 is zero of that sign");
        for (int size : Sentences.SIZES_AT_EDGES) {
            inAllSigns("multiply", 0, size, 0, 0);
            inAllSigns("multiply", size, 0, 0, 0);
        }
        inAllSigns("multiply", 0, 0, 0, 0);
    }

    private static void roundedProducts() {
        DOC.sentence("else it is rounded.");
        // 15 times 15 is 225; 14 times 18 is 252; 16 times 16 is 256.
        DOC.byMode("multiply(87, 87)", 118, 1, 118, 1, 119, 1, 118, 1);
        DOC.byMode("multiply(86, 89)", 120, 3, 119, 1, 120, 3, 119, 1);
        DOC.byMode("multiply(214, 89)", 248, 3, 247, 1, 247, 1, 248, 3);
        DOC.byMode("multiply(88, 88)", 120, 3, 119, 3, 120, 3, 119, 3);
        DOC.byMode("multiply(88, 216)", 248, 3, 247, 3, 247, 3, 248, 3);
        DOC.byMode("multiply(119, 119)", 120, 3, 119, 3, 120, 3, 119, 3);
        DOC.byMode("multiply(247, 247)", 120, 3, 119, 3, 120, 3, 119, 3);
        // Powers of two from 1 to 16384, where a product held too small would wrap around.
        for (int a = 56; a <= 112; a += 8) {
            for (int b = 56; b <= 112; b += 8) {
                String call = Calls.text("multiply", a, b);
                if (a + b - 56 <= 112) {
                    DOC.inAllModes(call, a + b - 56, 0);
                } else {
                    DOC.byMode(call, 120, 3, 119, 3, 120, 3, 119, 3);
                }
            }
        }
        // Too small: u times u, and halves of u.
        DOC.byMode("multiply(1, 1)", 0, 1, 0, 1, 1, 1, 0, 1);
        DOC.byMode("multiply(1, 129)", 128, 1, 128, 1, 128, 1, 129, 1);
        DOC.byMode("multiply(1, 48)", 0, 1, 0, 1, 1, 1, 0, 1);
        DOC.byMode("multiply(1, 49)", 1, 1, 0, 1, 1, 1, 0, 1);
        DOC.byMode("multiply(3, 48)", 2, 1, 1, 1, 2, 1, 1, 1);
        DOC.byMode("multiply(131, 48)", 130, 1, 129, 1, 129, 1, 130, 1);
    }

    private static void multiplyRefused() {
        DOC.sentence("BAD_ARG as for add.");
        DOC.refusesWhatIsNoCode("multiply", -1);
        DOC.takesTheOuterCodes("multiply");
    }

    private static void theQuotient() {
        DOC.sentence("The quotient a / b; its sign as for the product.");
        inAllSigns("divide", 68, 64, 60, 0);
        inAllSigns("divide", 64, 72, 48, 0);
        inAllSigns("divide", 119, 56, 119, 0);
        inAllSigns("divide", 119, 119, 56, 0);
        inAllSigns("divide", 1, 1, 56, 0);
        inAllSigns("divide", 2, 64, 1, 0);
    }

    private static void senselessQuotients() {
        DOC.sentence("Zero by zero and infinite by infinite are senseless");
        senselessInAllSigns("divide", 0, 0);
        senselessInAllSigns("divide", 120, 120);
    }

    private static void infiniteByOthers() {
        DOC.sentence("infinite by others is infinite");
        // By zero too, and then without the note 8: that is for finite numbers.
        inAllSigns("divide", 120, 0, 120, 0);
        for (int size : Sentences.SIZES_AT_EDGES) {
            inAllSigns("divide", 120, size, 120, 0);
        }
    }

    private static void othersByInfinite() {
        DOC.sentence("others by infinite are zero");
        inAllSigns("divide", 0, 120, 0, 0);
        for (int size : Sentences.SIZES_AT_EDGES) {
            inAllSigns("divide", size, 120, 0, 0);
        }
    }

    private static void zeroByOthers() {
        DOC.sentence("zero by others is zero");
        for (int size : Sentences.SIZES_AT_EDGES) {
            inAllSigns("divide", 0, size, 0, 0);
        }
    }

    private static void byZero() {
        DOC.sentence("a finite number other than 0 by zero is infinite, with the note 8");
        for (int size : Sentences.SIZES_AT_EDGES) {
            inAllSigns("divide", size, 0, 120, 8);
        }
    }

    private static void roundedQuotients() {
        DOC.sentence("else it is rounded.");
        // A third: 10 / 32 and 11 / 32 are its neighbours.
        DOC.byMode("divide(1, 3)", 43, 1, 42, 1, 43, 1, 42, 1);
        DOC.byMode("divide(129, 3)", 171, 1, 170, 1, 170, 1, 171, 1);
        // 15 by 1 / 16 is 240; 16 by 1 / 16 is 256; 240 by u is the greatest of all.
        DOC.inAllModes("divide(87, 24)", 119, 0);
        DOC.byMode("divide(88, 24)", 120, 3, 119, 3, 120, 3, 119, 3);
        DOC.byMode("divide(216, 24)", 248, 3, 247, 3, 247, 3, 248, 3);
        DOC.byMode("divide(119, 1)", 120, 3, 119, 3, 120, 3, 119, 3);
        DOC.byMode("divide(119, 129)", 248, 3, 247, 3, 247, 3, 248, 3);
        // 240 by 15 / 16 is 256, 11 by 11 / 256 too; 224 by 15 / 16 is 238.9.
        DOC.byMode("divide(119, 55)", 120, 3, 119, 3, 120, 3, 119, 3);
        DOC.byMode("divide(83, 19)", 120, 3, 119, 3, 120, 3, 119, 3);
        DOC.byMode("divide(118, 55)", 119, 1, 118, 1, 119, 1, 118, 1);
        // Too small: u by 240, and halves of u.
        DOC.byMode("divide(1, 119)", 0, 1, 0, 1, 1, 1, 0, 1);
        DOC.byMode("divide(129, 119)", 128, 1, 128, 1, 128, 1, 129, 1);
        DOC.byMode("divide(1, 64)", 0, 1, 0, 1, 1, 1, 0, 1);
        DOC.byMode("divide(129, 64)", 128, 1, 128, 1, 128, 1, 129, 1);
        DOC.byMode("divide(3, 64)", 2, 1, 1, 1, 2, 1, 1, 1);
        DOC.byMode("divide(1, 63)", 1, 1, 0, 1, 1, 1, 0, 1);
    }

    private static void divideRefused() {
        DOC.sentence("BAD_ARG as for add.");
        DOC.refusesWhatIsNoCode("divide", -1);
        DOC.takesTheOuterCodes("divide");
    }
}
