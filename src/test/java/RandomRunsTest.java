import java.util.ArrayList;
import java.util.List;
import java.util.Random;

/** Random runs of at most 512 calls, each answer held against the model. */
public final class RandomRunsTest {
    private static final String[] NAMES = {"a", "b", "tax", "love", "abe", "bo", "cy", "dan", "eve", "abcdef",
        "first", "total", "zz", "most"};
    private final Random random;
    private SpongeClerks x;
    private Model y;
    private String run;
    private int calls;

    private RandomRunsTest(long seed) {
        random = new Random(seed);
        run = "seed " + seed + ": ";
    }

    private static int[] faults = new int[6];

    public static void main(String[] args) {
        int many = args.length > 0 ? Integer.parseInt(args[0]) : 1500;
        int from = args.length > 1 ? Integer.parseInt(args[1]) : 0;
        for (int k = from; k < from + many && Check.isClean(); k++) {
            new RandomRunsTest(k).go();
        }
        for (int k = from; k < from + 20 * many && Check.isClean(); k++) {
            new RandomRunsTest(k).texts();
        }
        System.out.println("faults met: " + java.util.Arrays.toString(faults));
        Check.finish("RandomRunsTest");
    }

    private int below(int n) {
        return random.nextInt(n);
    }

    private boolean oneIn(int n) {
        return below(n) == 0;
    }

    private void say(String call, long got, long want) {
        calls++;
        Check.due(run + call, got, want);
    }

    private void say(String call, boolean got, boolean want) {
        say(call, got ? 1 : 0, want ? 1 : 0);
    }

    // ---- texts

    private String blank() {
        return oneIn(4) ? oneIn(3) ? "\n" : "  " : "";
    }

    private String gap() {
        return oneIn(6) ? " \n" : " ";
    }

    private String number() {
        return oneIn(5) ? String.valueOf(below(10000)) : oneIn(12) ? "000" + below(10) : String.valueOf(below(12));
    }

    private String part(int tongue, int deep) {
        int kind = below(deep > 0 ? 12 : 7);
        String[][] words = {{"drops", "space", "matter", "full", "room", "seat", "day"},
            {"off", "full", "room", "seat", "day"}, {"number", "mind", "full", "room", "seat", "day"}};
        if (kind < 2) {
            return number();
        }
        if (kind < 7) {
            return words[tongue][below(words[tongue].length)];
        }
        if (kind < 9) {
            return "(" + blank() + sum(tongue, deep - 1) + blank() + ")";
        }
        if (kind == 9 || tongue != 2) {
            return (oneIn(2) ? "min" : "max") + blank() + "(" + sum(tongue, deep - 1) + "," + blank()
                    + sum(tongue, deep - 1) + ")";
        }
        return (oneIn(2) ? "drops" : "off") + gap() + part(tongue, deep - 1);
    }

    private String sum(int tongue, int deep) {
        StringBuilder text = new StringBuilder(part(tongue, deep));
        while (oneIn(2)) {
            text.append(blank()).append("+-*/".charAt(below(4))).append(blank()).append(part(tongue, deep));
        }
        return text.toString();
    }

    private String fact(int tongue, int deep) {
        int kind = below(deep > 0 ? 6 : 4);
        if (kind == 0 && oneIn(2)) {
            return "all";
        }
        if (kind < 4) {
            return sum(tongue, deep) + blank() + "<>=".charAt(below(3)) + blank() + sum(tongue, deep);
        }
        return kind == 4 ? "not" + gap() + fact(tongue, deep - 1) : "[" + test(tongue, deep - 1) + blank() + "]";
    }

    private String test(int tongue, int deep) {
        StringBuilder text = new StringBuilder(fact(tongue, deep));
        while (oneIn(3)) {
            text.append(gap()).append(oneIn(2) ? "or" : "and").append(gap()).append(fact(tongue, deep));
        }
        return text.toString();
    }

    private int depth() {
        return oneIn(6) ? 3 + below(6) : below(3);
    }

    private String registryText() {
        List<String> names = new ArrayList<>(List.of(NAMES));
        java.util.Collections.shuffle(names, random);
        int seats = 2 + below(8);
        int matters = oneIn(20) ? 5 : below(5);
        int clerks = Math.min(oneIn(20) ? 8 : below(8), seats);
        List<String> rows = new ArrayList<>();
        List<Integer> free = new ArrayList<>();
        for (int s = 0; s < seats; s++) {
            free.add(s);
        }
        for (int m = 0; m < matters; m++) {
            rows.add("matter" + gap() + names.get(m));
        }
        for (int c = 0; c < clerks; c++) {
            int room = oneIn(3) ? 1 + below(99) : 5 + below(30);
            int seat = free.remove(below(free.size()));
            rows.add("clerk" + gap() + names.get(5 + c) + gap() + "at" + gap() + seat + gap() + "room" + gap() + room);
            for (int m = 0; m < matters; m++) {
                if (oneIn(2)) {
                    int much = oneIn(25) ? below(100) : below(1 + room / 3);
                    rows.add("told" + gap() + names.get(5 + c) + gap() + "of" + gap() + names.get(m) + gap() + much);
                }
            }
        }
        if (oneIn(2)) {
            rows.add("leaks" + gap() + (oneIn(2) ? "drops/" + (1 + below(5)) + "+" : "") + sum(0, depth()));
        }
        if (oneIn(2)) {
            rows.add("shakes" + gap() + test(1, depth()));
        }
        while (oneIn(2)) {
            rows.add("hand" + gap() + (oneIn(20) ? below(200) : below(101)));
        }
        while (oneIn(40)) {
            rows.add(rows.isEmpty() ? "x" : rows.get(below(rows.size())));
        }
        if (oneIn(30)) {
            int upTo = 77 + below(5);
            while (rows.size() < upTo) {
                rows.add("hand " + below(9));
            }
        }
        StringBuilder text = new StringBuilder(blank() + "seats" + gap() + seats + blank() + ";");
        for (String row : rows) {
            text.append(blank()).append(row).append(blank()).append(";");
        }
        return text + blank();
    }

    private String questionText() {
        String[] kinds = {"first", "last", "often", "total", "most", "least"};
        int kind = below(6);
        return blank() + kinds[kind] + gap() + (kind < 3 ? test(2, depth()) : sum(2, depth())) + blank();
    }

    private String spoilt(String text) {
        if (text.isEmpty()) {
            return text;
        }
        String signs = "abcdmnorst0123456789 ;()[]<>=+-*/,\n!A";
        int k = below(text.length());
        switch (below(6)) {
            case 0:
                return text.substring(0, k);
            case 1:
                return text.substring(0, k) + text.substring(k + 1);
            case 2:
                return text.substring(0, k) + signs.charAt(below(signs.length())) + text.substring(k + 1);
            case 3:
                return text.substring(0, k) + signs.charAt(below(signs.length())) + text.substring(k);
            case 4: {
                String[] words = {" not ", " drops ", " off ", " all ", " 12345 ", " ( ", " [ ", " min ", " seats ",
                    " matter ", " abcdefg ", " or "};
                return text.substring(0, k) + words[below(words.length)] + text.substring(k);
            }
            default: {
                int q = k + below(text.length() - k);
                return text.substring(0, k) + text.substring(q);
            }
        }
    }

    private void tape(int[] bytes) {
        for (int k = 0; k < bytes.length; k += 20) {
            int[] f = Check.five(bytes, k);
            say("feed", x.feed(f[0], f[1], f[2], f[3], f[4]), y.feed(f));
        }
        say("end", x.end(bytes.length), y.end(bytes.length));
    }

    private void registryCall(String text) {
        run = run.substring(0, run.indexOf(':') + 1) + " " + text + "\n   ";
        tape(Check.bytes(text));
        say("registry", x.registry(), y.registry());
        say("fault(0)", x.fault(0), y.fault(0));
        say("fault(1)", x.fault(1), y.fault(1));
        faults[y.fault(0)]++;
    }

    private void askCall(String text) {
        tape(Check.bytes(text));
        say("ask " + text, x.ask(), y.ask());
        say("fault(0) of " + text, x.fault(0), y.fault(0));
        say("fault(1) of " + text, x.fault(1), y.fault(1));
        faults[y.fault(0)]++;
    }

    /** Texts alone: many more of them than the runs have. */
    private void texts() {
        x = new SpongeClerks();
        y = new Model();
        String text = registryText();
        for (int k = below(4); k > 0; k--) {
            text = spoilt(text);
        }
        registryCall(text);
        String question = questionText();
        for (int k = below(3); k > 0; k--) {
            question = spoilt(question);
        }
        askCall(question);
    }

    // ---- runs

    private void go() {
        x = new SpongeClerks();
        y = new Model();
        for (int k = 0; k < 10 && (k == 0 || y.clerks() < 2); k++) {
            registryCall(oneIn(4) ? spoilt(registryText()) : registryText());
        }
        for (int k = 0; k < 5000 && calls < 460 && Check.isClean(); k++) {
            int kind = below(100);
            if (kind < 3) {
                askCall(oneIn(4) ? spoilt(questionText()) : questionText());
            } else if (kind < 5) {
                seeCall();
            } else if (kind < 7) {
                imageCall();
            } else if (kind == 7 && oneIn(4)) {
                registryCall(oneIn(2) ? spoilt(registryText()) : registryText());
            } else if (kind < 50) {
                act();
            } else {
                look();
            }
        }
    }

    private int c() {
        return oneIn(25) ? below(12) - 3 : below(Math.max(1, y.clerks()));
    }

    private int m() {
        return oneIn(25) ? below(8) - 2 : below(Math.max(1, y.matters()));
    }

    private int s() {
        return oneIn(25) ? below(13) - 2 : below(Math.max(1, y.seats()));
    }

    private void seeCall() {
        int rows = oneIn(10) ? below(19) : 1 + below(3);
        int[] bytes = new int[4 * rows + (oneIn(15) ? 1 : 0)];
        int mm = m();
        int much = below(20);
        Model.World w = null;
        int from = c();
        if (y.isC(from) && y.isM(mm)) {
            w = y.now.copy();
            y.pour(w, from, mm, much);
        }
        for (int k = 0; k + 4 <= bytes.length; k += 4) {
            bytes[k] = oneIn(40) ? 31 : oneIn(3) ? below(31) : below(4);
            bytes[k + 1] = c() & 255;
            bytes[k + 2] = oneIn(2) ? m() & 255 : mm & 255;
            boolean true1 = w != null && y.isC(bytes[k + 1]) && y.isM(bytes[k + 2]);
            bytes[k + 3] = true1 && !oneIn(8) ? y.ahead(w, bytes[k]).drops[bytes[k + 1]][bytes[k + 2]] : below(101);
        }
        tape(bytes);
        say("see", x.see(), y.see());
        say("has(8)", x.has(8), y.has(8));
        say("sources " + mm + " " + much, x.sources(mm, much), y.sources(mm, much));
        for (int k = 0; k < 3; k++) {
            say("tells " + mm + " " + much + " " + k, x.tells(mm, much, k), y.tells(mm, much, k));
        }
    }

    private void imageCall() {
        say("image", x.image(), y.image());
        int[] bytes = new int[y.picture.size()];
        for (int k = 0; k < bytes.length; k++) {
            bytes[k] = y.octet(k);
            if (oneIn(5)) {
                say("octet " + k, x.octet(k), y.octet(k));
            }
        }
        say("octet", x.octet(bytes.length), y.octet(bytes.length));
        if (oneIn(2)) {
            int[] body = java.util.Arrays.copyOf(bytes, bytes.length - 1);
            for (int k = below(3); k > 0; k--) {
                body[below(body.length)] = oneIn(2) ? below(256) : below(10);
            }
            if (oneIn(2)) {
                int day = 900 + below(110);
                body[0] = day / 256;
                body[1] = day % 256;
            }
            if (y.matters() > 0 && oneIn(2)) {
                int pool = 9850 + below(160);
                int at = body.length - 2 * (1 + below(3 * y.matters()));
                body[at] = pool / 256;
                body[at + 1] = pool % 256;
            }
            bytes = oneIn(8) ? body : Check.sealed(body);
        }
        tape(bytes);
        say("on", x.on(), y.on());
        say("has(3)", x.has(3), y.has(3));
        say("has(5)", x.has(5), y.has(5));
    }

    private void act() {
        int a = c();
        int b = m();
        int n = oneIn(12) ? below(130) - 10 : 1 + below(5);
        switch (below(12)) {
            case 0:
            case 1:
            case 2: {
                int much = oneIn(8) ? below(110) - 5 : 1 + below(20);
                say("tell " + a + " " + b + " " + much, x.tell(a, b, much), y.tell(a, b, much));
                break;
            }
            case 3:
                say("squeeze " + a, x.squeeze(a), y.wring(a, 1));
                break;
            case 4:
                say("rinse " + a, x.rinse(a), y.wring(a, 2));
                break;
            case 5:
                say("mop " + a, x.mop(a), y.mop(a));
                break;
            case 6: {
                int s = s();
                int t = s();
                say("change " + s + " " + t, x.change(s, t), y.change(s, t));
                break;
            }
            case 7:
                say("days " + n, x.days(n), y.days(n));
                break;
            case 8:
            case 9:
                say("chance " + n, x.chance(n), y.chance(n));
                break;
            case 10:
                say("undo", x.undo(), y.undo());
                break;
            default: {
                int seed = oneIn(3) ? random.nextInt() : below(1000);
                say("seed " + seed, x.seed(seed), y.seed(seed));
            }
        }
    }

    private void look() {
        int a = c();
        int b = m();
        int n = oneIn(5) ? below(64) - 2 : below(8);
        int w = oneIn(12) ? below(14) - 2 : below(5);
        switch (below(21)) {
            case 0:
                w = below(12) - 1;
                say("has " + w, x.has(w), y.has(w));
                break;
            case 1: {
                int kind = oneIn(10) ? below(5) - 2 : below(2);
                int k = below(8) - 1;
                say("letter " + kind + " " + a + " " + k, x.letter(kind, a, k), y.letter(kind, a, k));
                break;
            }
            case 2: {
                int s = s();
                say("seat " + s, x.seat(s), y.seat(s));
                break;
            }
            case 3:
                say("clerk " + a + " " + w, x.clerk(a, w), y.clerk(a, w));
                break;
            case 4:
                say("drops " + a + " " + b, x.drops(a, b), y.drops(a, b));
                break;
            case 5:
                say("matter " + b + " " + w, x.matter(b, w), y.matter(b, w));
                break;
            case 6: {
                int side = oneIn(12) ? below(5) - 2 : below(2);
                say("leak " + a + " " + side + " " + b, x.leak(a, side, b), y.leak(a, side, b));
                break;
            }
            case 7: {
                int k = below(44) - 2;
                w = below(5) - 1;
                say("kept " + k + " " + w, x.kept(k, w), y.kept(k, w));
                break;
            }
            case 8:
                say("later " + a + " " + b + " " + n, x.later(a, b, n), y.later(a, b, n));
                break;
            case 9:
                say("knows " + b + " " + n, x.knows(b, n), y.knows(b, n));
                break;
            case 10:
                say("hears " + a + " " + b, x.hears(a, b), y.hears(a, b));
                break;
            case 11:
                w = below(5) - 1;
                say("discreet " + b + " " + n + " " + w, x.discreet(b, n, w), y.discreet(b, n, w));
                break;
            case 12:
                say("pressed " + a + " " + b + " " + n, x.pressed(a, b, n), y.pressed(a, b, n));
                break;
            case 13:
                say("mops", x.mops(), y.mops());
                break;
            case 14:
                say("desks " + b, x.desks(b), y.desks(b));
                break;
            case 15: {
                int much = oneIn(6) ? below(110) - 5 : below(20);
                say("sources " + b + " " + much, x.sources(b, much), y.sources(b, much));
                break;
            }
            case 16: {
                int much = oneIn(6) ? below(110) - 5 : below(20);
                w = below(5) - 1;
                say("tells " + b + " " + much + " " + w, x.tells(b, much, w), y.tells(b, much, w));
                break;
            }
            case 17:
                w = below(9) - 1;
                say("status " + w, x.status(w), y.status(w));
                break;
            case 18:
                w = below(70) - 2;
                say("octet " + w, x.octet(w), y.octet(w));
                break;
            case 19:
                w = below(5) - 1;
                say("fault " + w, x.fault(w), y.fault(w));
                break;
            default: {
                int e = below(30) - 2;
                int f = random.nextInt();
                if (oneIn(3)) {
                    say("feed", x.feed(f, e, f, 1, 2), y.feed(f, e, f, 1, 2));
                }
                say("end " + e, x.end(e), y.end(e));
                say("end 0", x.end(0), y.end(0));
            }
        }
    }
}
