import java.io.IOException;
import java.math.BigInteger;
import java.nio.file.Files;
import java.nio.file.Path;

/** What the tests of boundary cases share: each answer is looked at under the sentence that asks for it. */
final class Edge {
    private static final String DOCUMENT = document();
    private static String label = "";

    private Edge() {
    }

    /** The answers from here on are asked for by this sentence of the document (or this part of one). */
    static void sentence(String quote) {
        label = "\"" + quote + "\" ";
        if (DOCUMENT != null) {
            Check.due("the document says " + label, DOCUMENT.contains(flat(quote)), true);
        }
    }

    static void due(String what, long got, long want) {
        Check.due(label + what, got, want);
    }

    static void due(String what, boolean got, boolean want) {
        Check.due(label + what, got, want);
    }

    static void fits(String text, int statements) {
        SpongeClerks x = new SpongeClerks();
        due("registry " + text, Check.registry(x, text), statements);
        due("fault(0) of " + text, x.fault(0), 0);
        due("fault(1) of " + text, x.fault(1), -1);
    }

    static void fault(String text, int kind, int place) {
        SpongeClerks x = new SpongeClerks();
        due("registry " + text, Check.registry(x, text), -1);
        due("fault(0) of " + text, x.fault(0), kind);
        due("fault(1) of " + text, x.fault(1), place);
    }

    static void answer(SpongeClerks x, String question, long want) {
        due(question, Check.ask(x, question), want);
        due("fault(0) of " + question, x.fault(0), 0);
        due("fault(1) of " + question, x.fault(1), -1);
    }

    static void questionFault(SpongeClerks x, String question, int kind, int place) {
        due(question, Check.ask(x, question), -1000000000000000L);
        due("fault(0) of " + question, x.fault(0), kind);
        due("fault(1) of " + question, x.fault(1), place);
    }

    /** The answer of the DRAW of m that comes behind so many others, by the document's words. */
    static int draw(int seed, int others, int m) {
        BigInteger x = BigInteger.valueOf(seed);
        for (int k = 0; k <= others; k++) {
            x = x.multiply(BigInteger.valueOf(1103515245)).add(BigInteger.valueOf(12345)).mod(BigInteger.ONE.shiftLeft(31));
        }
        return x.divide(BigInteger.valueOf(64)).mod(BigInteger.valueOf(m)).intValue();
    }

    /** All is so on that DAY: of each CLERK his seat and drops; of each MATTER on the FLOOR, READ, RINSED. */
    static boolean put(SpongeClerks x, int day, int[][] clerks, int[][] pools) {
        return Check.on(x, picture(day, clerks, pools));
    }

    static int[] picture(int day, int[][] clerks, int[][] pools) {
        java.util.ArrayList<Integer> bytes = new java.util.ArrayList<>();
        pair(bytes, day);
        for (int[] clerk : clerks) {
            for (int value : clerk) {
                bytes.add(value);
            }
        }
        for (int[] matter : pools) {
            for (int value : matter) {
                pair(bytes, value);
            }
        }
        return Check.sealed(bytes.stream().mapToInt(Integer::intValue).toArray());
    }

    private static void pair(java.util.ArrayList<Integer> bytes, int value) {
        bytes.add(value / 256);
        bytes.add(value % 256);
    }

    static String times(String text, int many) {
        return text.repeat(many);
    }

    private static String flat(String text) {
        return text.replaceAll("\\s+", " ");
    }

    /** Null where the document is not at hand: then its words can't be compared, the answers still are. */
    private static String document() {
        try {
            return flat(Files.readString(Path.of("../shared/DOC.md")));
        } catch (IOException e) {
            return null;
        }
    }
}
