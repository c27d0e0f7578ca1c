import java.util.List;
import java.util.stream.Stream;

/** Calls told as text, such as "add(56, 57)", so that a row of a test is one line. */
final class Calls {
    /** Every method of the document's face that takes arguments. */
    static final List<String> WITH_ARGUMENTS = List.of("mode", "add", "subtract", "multiply",
            "divide", "root", "together", "compare", "from", "whole", "pile", "pileProduct", "store");

    static final List<String> ALL =
            Stream.concat(Stream.of("notes", "clear"), WITH_ARGUMENTS.stream()).toList();

    static String text(String name, int... args) {
        StringBuilder text = new StringBuilder(name).append('(');
        for (int i = 0; i < args.length; i++) {
            text.append(i == 0 ? "" : ", ").append(args[i]);
        }
        return text.append(')').toString();
    }

    static int ask(TinyFloats x, String call) {
        int open = call.indexOf('(');
        String inside = call.substring(open + 1, call.length() - 1);
        String[] parts = inside.isEmpty() ? new String[0] : inside.split(", ");
        int[] args = new int[parts.length];
        for (int i = 0; i < parts.length; i++) {
            args[i] = Integer.parseInt(parts[i]);
        }
        return ask(x, call.substring(0, open), args);
    }

    static int places(String name) {
        switch (name) {
            case "together":
                return 3;
            case "add":
            case "subtract":
            case "multiply":
            case "divide":
            case "compare":
            case "pileProduct":
                return 2;
            case "notes":
            case "clear":
                return 0;
            default:
                return 1;
        }
    }

    private static int ask(TinyFloats x, String name, int[] args) {
        if (args.length != places(name)) {
            throw new IllegalArgumentException(text(name, args));
        }
        switch (name) {
            case "mode":
                return x.mode(args[0]);
            case "notes":
                return x.notes();
            case "clear":
                return x.clear();
            case "add":
                return x.add(args[0], args[1]);
            case "subtract":
                return x.subtract(args[0], args[1]);
            case "multiply":
                return x.multiply(args[0], args[1]);
            case "divide":
                return x.divide(args[0], args[1]);
            case "root":
                return x.root(args[0]);
            case "together":
                return x.together(args[0], args[1], args[2]);
            case "compare":
                return x.compare(args[0], args[1]);
            case "from":
                return x.from(args[0]);
            case "whole":
                return x.whole(args[0]);
            case "pile":
                return x.pile(args[0]);
            case "pileProduct":
                return x.pileProduct(args[0], args[1]);
            case "store":
                return x.store(args[0]);
            default:
                throw new IllegalArgumentException(name);
        }
    }
}
