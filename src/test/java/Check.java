/** Counts answers that are not as due, and feeds texts to the tape. */
final class Check {
    private static int wrong;
    private static int made;

    private Check() {
    }

    static void due(String what, long got, long want) {
        made++;
        if (got != want) {
            wrong++;
            if (wrong <= 50) {
                System.out.println(what + " answered " + got + ", due is " + want);
            }
        }
    }

    static void due(String what, boolean got, boolean want) {
        due(what, got ? 1 : 0, want ? 1 : 0);
    }

    static boolean isClean() {
        return wrong == 0;
    }

    static void finish(String name) {
        System.out.println(name + ": " + made + " answers looked at, " + wrong + " not as due");
        if (wrong != 0 || made == 0) {
            System.exit(1);
        }
    }

    /** The five numbers of the twenty bytes from k on; blanks behind the end. */
    static int[] five(int[] bytes, int k) {
        int[] five = new int[5];
        for (int b = 0; b < 20; b++) {
            int value = k + b < bytes.length ? bytes[k + b] : 32;
            five[b / 4] = five[b / 4] << 8 | value & 255;
        }
        return five;
    }

    static int[] bytes(String text) {
        return text.chars().toArray();
    }

    static void tape(SpongeClerks x, int... bytes) {
        x.end(0);
        for (int k = 0; k < bytes.length; k += 20) {
            int[] f = five(bytes, k);
            x.feed(f[0], f[1], f[2], f[3], f[4]);
        }
        x.end(bytes.length);
    }

    static int registry(SpongeClerks x, String text) {
        tape(x, bytes(text));
        return x.registry();
    }

    static long ask(SpongeClerks x, String text) {
        tape(x, bytes(text));
        return x.ask();
    }

    static int see(SpongeClerks x, int... rows) {
        tape(x, rows);
        return x.see();
    }

    static boolean on(SpongeClerks x, int... image) {
        tape(x, image);
        return x.on();
    }

    /** The bytes with the one behind them that closes an image. */
    static int[] sealed(int... bytes) {
        int[] image = java.util.Arrays.copyOf(bytes, bytes.length + 1);
        int c = 191;
        for (int b : bytes) {
            c = (3 * c + b) % 251;
        }
        image[bytes.length] = c;
        return image;
    }

    static SpongeClerks office(String text) {
        SpongeClerks x = new SpongeClerks();
        due("registry of " + text, registry(x, text) > 0, true);
        return x;
    }

    /** The FAULT of a registry and its place. */
    static void fault(String text, int kind, int place) {
        SpongeClerks x = new SpongeClerks();
        due("registry " + text, registry(x, text), -1);
        due("fault(0) of " + text, x.fault(0), kind);
        due("fault(1) of " + text, x.fault(1), place);
        due("status(1) of " + text, x.status(1), 1);
    }
}
