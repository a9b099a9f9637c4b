/** Promises 1 to 37: each sentence that names a boundary case or a refused call, at it and on both sides of it. */
public final class PromiseEdgeTest {
    private static final int LEAST = Integer.MIN_VALUE;
    private static final int MOST = Integer.MAX_VALUE;
    private static final long NOTHING = -1000000000000000L;
    private static final String A = "seats 4;matter m;matter w;clerk a at 0 room 10;clerk b at 1 room 6;"
            + "clerk c at 3 room 8;told a of m 8;told b of w 2;told c of m 3;hand 60;shakes off<3;";
    private static final String TWO = "seats 2;matter m;clerk a at 0 room 99;clerk b at 1 room 99;";

    private PromiseEdgeTest() {
    }

    public static void main(String[] args) {
        promise1();
        promise2();
        promise3();
        promise4();
        registriesInARow();
        promise5();
        promise6();
        promise7();
        promise8();
        promise9();
        promise10();
        promise11();
        promise12();
        promise13();
        promises14and15();
        promise16();
        promise17();
        promise18();
        promise19();
        promise20();
        promise21();
        promise22();
        promise23();
        promise24();
        promises25and26();
        promise27();
        promise28();
        promises29and30();
        promise31();
        promise32();
        promise33();
        promises34and35();
        promise36();
        imagesInARow();
        promise37();
        calls512();
        Check.finish("PromiseEdgeTest");
    }

    /** Something of all: ACTS, KEPT, SEEN, an image, drops everywhere, a seed, a FAULT, and a question on the tape. */
    private static SpongeClerks busy() {
        SpongeClerks x = Check.office(A);
        Check.see(x, 0, 0, 0, 8, 2, 1, 1, 0);
        x.image();
        x.tell(1, 0, 9);
        x.squeeze(0);
        x.days(3);
        x.change(1, 2);
        x.rinse(1);
        x.seed(77);
        Check.ask(x, "often 1<");
        Check.tape(x, Check.bytes("total full+number*room"));
        return x;
    }

    private static SpongeClerks empty() {
        SpongeClerks x = new SpongeClerks();
        Check.tape(x, Check.bytes("often all"));
        return x;
    }

    private static boolean within(int value, int least, int most) {
        return value >= least && value <= most;
    }

    // ---- the tape, the registry

    private static void promise1() {
        Edge.sentence("No registry, no clerks.");
        SpongeClerks x = new SpongeClerks();
        int[] numbers = {LEAST, -1, 0, 1, 2, MOST};
        for (int a : numbers) {
            Edge.due("seat(" + a + ")", x.seat(a), -1);
            Edge.due("desks(" + a + ")", x.desks(a), -1);
            Edge.due("octet(" + a + ")", x.octet(a), -1);
            for (int b : numbers) {
                Edge.due("clerk(" + a + ", " + b + ")", x.clerk(a, b), -1);
                Edge.due("drops(" + a + ", " + b + ")", x.drops(a, b), -1);
                Edge.due("matter(" + a + ", " + b + ")", x.matter(a, b), -1);
                Edge.due("kept(" + a + ", " + b + ")", x.kept(a, b), -1);
                Edge.due("knows(" + a + ", " + b + ")", x.knows(a, b), -1);
                Edge.due("hears(" + a + ", " + b + ")", x.hears(a, b), -1);
                Edge.due("sources(" + a + ", " + b + ")", x.sources(a, b), -1);
            }
        }
        SpongeClerks y = new SpongeClerks();
        for (int a : numbers) {
            Edge.due("letter", y.letter(0, a, 0), -1);
            Edge.due("letter", y.letter(1, a, 0), -1);
            Edge.due("leak", y.leak(a, 0, 0), -1);
            Edge.due("later", y.later(a, 0, 0), -1);
            Edge.due("discreet", y.discreet(a, 1, 0), -1);
            Edge.due("pressed", y.pressed(a, 0, 1), -1);
            Edge.due("tells", y.tells(a, 1, 0), -1);
        }
        for (int k = 0; k < 10; k++) {
            Edge.due("has(" + k + ")", y.has(k), 0);
        }
        for (int k = 0; k < 6; k++) {
            Edge.due("status(" + k + ")", y.status(k), 0);
        }
        Edge.due("mops()", y.mops(), -1);
        Edge.due("undo()", y.undo(), false);
        Twins.refused("tell without a registry", PromiseEdgeTest::empty, z -> z.tell(0, 0, 1), -1, 2);
        Twins.refused("days without a registry", PromiseEdgeTest::empty, z -> z.days(1), -1, 3);
        Twins.refused("undo without a registry", PromiseEdgeTest::empty, z -> z.undo() ? 1 : 0, 0, 4);
    }

    private static SpongeClerks fed(int bytes) {
        SpongeClerks x = Check.office(A);
        for (int k = 0; k < bytes; k += 20) {
            x.feed(0x6f667465, 0x6e20616c, 0x6c202020, 0x20202020, 0x20202020);
        }
        x.end(bytes);
        return x;
    }

    private static void promise2() {
        Edge.sentence("NONE, refused (0), if there would be more than 1600.");
        int[] sizes = {0, 1, 1560, 1579, 1580, 1581, 1599, 1600};
        for (int size : sizes) {
            SpongeClerks x = fed(size);
            boolean fits = size <= 1580;
            Edge.due("feed behind " + size, x.feed(1, 2, 3, 4, 5), fits ? size + 20 : -1);
            Edge.due("refused", x.status(0), fits ? 0 : 1);
            Edge.due("so many are there", x.end(fits ? size + 20 : size), true);
            Edge.due("no more", x.end(fits ? size + 21 : size + 1), false);
        }
        // The tape with 1581 bytes and no more stays as it is: a question, blanks behind it.
        SpongeClerks x = fed(1600);
        x.end(9);
        for (int k = 0; k < 78; k++) {
            x.feed(0x20202020, 0x20202020, 0x20202020, 0x20202020, 0x20202020);
        }
        x.feed(0x20202020, 0x20202020, 0x20202020, 0x20202020, 0x20202020);
        Edge.due("1589 bytes, then no more", x.feed(0x21212121, 0, 0, 0, 0), -1);
        Edge.due("what is refused is not on the tape", x.ask(), 3);
        Edge.sentence("Twenty bytes come behind those on the tape, of each number the highest first: how many there are;");
        x = Check.office(A);
        Edge.due("bytes 30, 2, 1, 99", x.feed(0x1e020163, 0x00000000, 0x1d010062, 0x01000101, 0x00020000), 20);
        Edge.due("five rows", x.see(), 5);
        int[] spoilt = {0x1f020163, 0x1e030163, 0x1e020263, 0x1e020164, 0x80000000, 0x00800000, 0x00008000, 0x00000080, -1};
        for (int number : spoilt) {
            x.feed(number, 0, 0, 0, 0);
            Edge.due("a row of " + number, x.see(), -1);
            x.feed(0, 0, 0, 0, number);
            Edge.due("a last row of " + number, x.see(), -1);
        }
        x.feed(0, 0, 0, 0, 0);
        Edge.due("behind those there", x.feed(0x1f000000, 0, 0, 0, 0), 40);
        x.end(20);
        Edge.due("the first twenty are the first ones", x.see(), 5);
    }

    private static void promise3() {
        Edge.sentence("The tape has its first n bytes alone: true; false, refused (0), if it has not so many, or n is below 0.");
        int[] sizes = {0, 1, 19, 20, 21, 40};
        int[] ends = {LEAST, -1, 0, 1, 18, 19, 20, 21, 22, 39, 40, 41, 1600, MOST};
        for (int size : sizes) {
            for (int n : ends) {
                SpongeClerks x = fed(size);
                boolean fits = n >= 0 && n <= size;
                Edge.due("end(" + n + ") of " + size, x.end(n), fits);
                Edge.due("refused", x.status(0), fits ? 0 : 1);
                Edge.due("so many are there", x.feed(0, 0, 0, 0, 0), (fits ? n : size) + 20);
            }
        }
        Twins.refused("end(-1)", PromiseEdgeTest::busy, z -> z.end(-1) ? 1 : 0, 0, 0);
        Twins.refused("end(23)", PromiseEdgeTest::busy, z -> z.end(23) ? 1 : 0, 0, 0);
        Twins.looks("end(22)", PromiseEdgeTest::busy, z -> z.end(22) ? 1 : 0, 1);
        SpongeClerks x = Check.office(A);
        Check.tape(x, Check.bytes("often all!"));
        x.end(9);
        Edge.due("the first 9 alone", x.ask(), 3);
    }

    private static long registry(SpongeClerks x, String text) {
        return Check.registry(x, text);
    }

    private static void promise4() {
        Edge.sentence("NONE, refused (1), with a FAULT (all stays; one without a STATEMENT has FAULT 1 at its length).");
        String[] wrong = {"", " ", "seats 1;", "seats 2;matter m;clerk a at 0 room 5;told a of m 6;", "seats 9;leaks 0;leaks 0;",
            "seats 9;matter a;matter b;matter c;matter d;matter e;", "seats 2;leaks (((((((1", "seats 2;clerk a at 1 room 5;shakes not all;hand 7;told"};
        for (String text : wrong) {
            Twins.refusedWithFault("registry " + text, PromiseEdgeTest::busy, z -> registry(z, text), -1, 1);
            Twins.refusedWithFault("registry " + text, PromiseEdgeTest::empty, z -> registry(z, text), -1, 1);
        }
        int[] blanks = {0, 1, 2, 20, 1599, 1600};
        for (int many : blanks) {
            SpongeClerks x = new SpongeClerks();
            Edge.due(many + " blanks", Check.registry(x, Edge.times("\n", many)), -1);
            Edge.due("FAULT 1", x.fault(0), 1);
            Edge.due("at its length", x.fault(1), many);
        }
        String one = "seats 2;";
        Edge.fits(one + Edge.times(" ", 1600 - one.length()), 1);
        Edge.fits(Edge.times(" ", 1600 - one.length()) + one, 1);
        Edge.fault(Edge.times(" ", 1601 - one.length()) + "seats 2", 1, 1600);
        Edge.sentence("Without one all is as at first, nothing is KEPT, SEEN or can be undone; the seed stays.");
        String other = "seats 3;matter q;clerk r at 1 room 9;clerk s at 2 room 9;told r of q 9;hand 80;";
        String[] next = {A, other, "seats 5;", "seats 2;matter a;matter b;matter c;matter d;"};
        for (String text : next) {
            SpongeClerks x = busy();
            SpongeClerks y = new SpongeClerks();
            y.seed(77);
            Edge.due("registry " + text, Check.registry(x, text), Check.registry(y, text));
            Edge.due("FAULT 0", x.fault(0), 0);
            Edge.due("its place", x.fault(1), -1);
            Twins.alike("as with a new object: " + text, x, y, false);
        }
        SpongeClerks x = busy();
        Check.registry(x, other);
        Edge.due("has(7)", x.has(7), 0);
        Edge.due("has(8)", x.has(8), 0);
        Edge.due("has(9)", x.has(9), 0);
        Edge.due("undo()", x.undo(), false);
        Edge.due("of clerks there were", x.clerk(2, 0), -1);
        Edge.due("refusals stay", x.status(4), 1);
    }

    /** Whatever registry was ahead, with a FAULT or without: the next one is as on a new object. */
    private static void registriesInARow() {
        Edge.sentence("Without one all is as at first, nothing is KEPT, SEEN or can be undone; the seed stays.");
        String text = TWO + "matter w;told a of m 40;told b of w 9;";
        String[] texts = {text, text + "leaks 3;", text + "leaks day+1;", text + "hand 100;", text + "hand 100;shakes not all;",
            text + "leaks 1;hand 100;shakes off>1;", "seats 2;", "seats 9;clerk b at 8 room 3;matter x;told b of x 2;hand 100;"};
        String[] wrong = {"seats 2;matter q;clerk m at 1 room 7;told m of q 7;leaks 0;shakes not all;hand 9;hand 101;", "seats 9;leaks 1;leaks",
            "seats 3;shakes not all;matter m;leaks 2", ""};
        for (String next : texts) {
            for (String ahead : texts) {
                SpongeClerks x = Check.office(ahead);
                x.days(2);
                x.seed(42);
                inARow(x, next, next + " behind " + ahead);
            }
            for (String ahead : wrong) {
                SpongeClerks x = new SpongeClerks();
                Edge.due(ahead, Check.registry(x, ahead), -1);
                x.seed(42);
                inARow(x, next, next + " behind " + ahead);
            }
        }
    }

    private static void inARow(SpongeClerks x, String next, String what) {
        SpongeClerks y = new SpongeClerks();
        y.seed(42);
        Edge.due(what, Check.registry(x, next), Check.registry(y, next));
        Edge.due(what + ": no FAULT", x.fault(0), 0);
        Twins.alike(what, x, y);
    }

    private static void promise5() {
        Edge.sentence("its FAULT (what 0; 0 without, and ahead of any), its place (1; NONE without). NONE for another what.");
        int[] others = {LEAST, -1, 2, 3, MOST};
        SpongeClerks x = new SpongeClerks();
        Edge.due("ahead of any", x.fault(0), 0);
        Edge.due("ahead of any", x.fault(1), -1);
        for (int what : others) {
            Edge.due("fault(" + what + ") ahead of any", x.fault(what), -1);
        }
        Check.registry(x, "seats 10;");
        Edge.due("with one", x.fault(0), 2);
        Edge.due("with one", x.fault(1), 6);
        for (int what : others) {
            Edge.due("fault(" + what + ")", x.fault(what), -1);
        }
        x.see();
        x.on();
        x.tell(0, 0, 0);
        Edge.due("other calls tell none", x.fault(0), 2);
        Edge.due("other calls tell none", x.fault(1), 6);
        Check.registry(x, "seats 9;");
        Edge.due("without", x.fault(0), 0);
        Edge.due("without", x.fault(1), -1);
        Check.ask(x, "often (");
        Edge.due("of ask()", x.fault(0), 1);
        Edge.due("of ask()", x.fault(1), 7);
        Check.registry(x, "");
        Edge.due("at 0", x.fault(0), 1);
        Edge.due("at 0", x.fault(1), 0);
        Check.ask(x, "often all");
        Edge.due("without", x.fault(0), 0);
        Edge.due("without", x.fault(1), -1);
    }

    // ---- what there is

    private static void promise6() {
        Edge.sentence("9 ACTS that can be undone. NONE for others.");
        int[] others = {LEAST, -1, 10, 11, MOST};
        SpongeClerks x = busy();
        for (int what : others) {
            Edge.due("has(" + what + ")", x.has(what), -1);
        }
        // Five of bo's nine were spilt; one went on to abe, the rest is RINSED; abe's own are READ; cy has three.
        int[] wants = {4, 2, 3, 3, 4, 5, 0, 3, 2, 5};
        for (int what = 0; what < 10; what++) {
            Edge.due("has(" + what + ")", x.has(what), wants[what]);
        }
        x.undo();
        x.undo();
        Edge.due("has(9) behind two undone", x.has(9), 3);
        Edge.due("has(4) behind two undone", x.has(4), 9);
        Edge.sentence("6 CLERKS as FULL as their room,");
        x = Check.office("seats 3;matter m;matter w;clerk a at 0 room 3;clerk b at 1 room 1;clerk c at 2 room 99;told a of m 1;told a of w 1;");
        Edge.due("none", x.has(6), 0);
        x.tell(0, 1, 1);
        Edge.due("one", x.has(6), 1);
        x.tell(1, 1, 1);
        Edge.due("two", x.has(6), 2);
        x.tell(2, 0, 98);
        Edge.due("98 of 99", x.has(6), 2);
        x.tell(2, 1, 1);
        Edge.due("three", x.has(6), 3);
        x.tell(2, 1, 9);
        Edge.due("no more than FULL", x.has(6), 3);
        Edge.due("4: all drops", x.has(4), 103);
        Edge.due("5: on the FLOOR", x.has(5), 9);
    }

    private static void promise7() {
        Edge.sentence("Letter k (0 .. 5) of the NAME of a MATTER (kind 0), a CLERK (1): 1 .. 26; 0 behind it; NONE when there is none such.");
        String[] names = {"a", "z", "zz", "abcdef", "zyxwvu", "azazaz"};
        SpongeClerks x = Check.office("seats 9;matter a;matter zz;matter abcdef;clerk z at 0 room 1;clerk zyxwvu at 1 room 1;clerk azazaz at 2 room 1;");
        int[] kinds = {0, 1, 0, 0, 1, 1};
        int[] which = {0, 0, 1, 2, 1, 2};
        for (int n = 0; n < names.length; n++) {
            for (int k = -1; k <= 6; k++) {
                int want = k < 0 || k > 5 ? -1 : k < names[n].length() ? names[n].charAt(k) - 'a' + 1 : 0;
                Edge.due("letter " + k + " of " + names[n], x.letter(kinds[n], which[n], k), want);
            }
            Edge.due("far off", x.letter(kinds[n], which[n], MOST), -1);
            Edge.due("far off", x.letter(kinds[n], which[n], LEAST), -1);
        }
        int[] odd = {LEAST, -1, 3, 4, 7, MOST};
        for (int other : odd) {
            Edge.due("MATTER " + other, x.letter(0, other, 0), -1);
            Edge.due("CLERK " + other, x.letter(1, other, 0), -1);
            Edge.due("kind " + other, x.letter(other, 0, 0), -1);
        }
        Edge.due("kind 2", x.letter(2, 0, 0), -1);
    }

    private static void promise8() {
        Edge.sentence("Who sits on a seat; NONE when it is empty, or there is none such.");
        SpongeClerks x = Check.office("seats 4;clerk a at 3 room 1;clerk b at 0 room 1;");
        int[] seats = {LEAST, -1, 0, 1, 2, 3, 4, 8, 9, MOST};
        int[] who = {-1, -1, 1, -1, -1, 0, -1, -1, -1, -1};
        for (int k = 0; k < seats.length; k++) {
            Edge.due("seat(" + seats[k] + ")", x.seat(seats[k]), who[k]);
        }
    }

    private static void promise9() {
        Edge.sentence("3 the MATTER of which he has most (the first; NONE), 4 his POWER. NONE when there is none such, or for others.");
        SpongeClerks x = Check.office(A + "told b of m 2;");
        int[] clerks = {LEAST, -1, 0, 1, 2, 3, 7, MOST};
        int[] whats = {LEAST, -1, 0, 1, 2, 3, 4, 5, MOST};
        int[][] wants = {{0, 10, 8, 0, 2}, {1, 6, 4, 0, 2}, {3, 8, 3, 0, 2}};
        for (int clerk : clerks) {
            for (int what : whats) {
                int want = within(clerk, 0, 2) && within(what, 0, 4) ? wants[clerk][what] : -1;
                Edge.due("clerk(" + clerk + ", " + what + ")", x.clerk(clerk, what), want);
            }
        }
        x.tell(1, 1, 1);
        Edge.due("one more of w", x.clerk(1, 3), 1);
        x.rinse(1);
        Edge.due("nothing", x.clerk(1, 3), -1);
        Edge.due("FULL", x.clerk(1, 2), 0);
        x.tell(1, 1, 1);
        Edge.due("one drop", x.clerk(1, 3), 1);
    }

    private static void promise10() {
        Edge.sentence("How many drops of a MATTER a CLERK has; NONE when there are none such.");
        SpongeClerks x = Check.office(A);
        int[] clerks = {LEAST, -1, 0, 1, 2, 3, 7, MOST};
        int[] matters = {LEAST, -1, 0, 1, 2, 4, MOST};
        int[][] wants = {{8, 0}, {0, 2}, {3, 0}};
        for (int clerk : clerks) {
            for (int matter : matters) {
                int want = within(clerk, 0, 2) && within(matter, 0, 1) ? wants[clerk][matter] : -1;
                Edge.due("drops(" + clerk + ", " + matter + ")", x.drops(clerk, matter), want);
            }
        }
    }

    private static void promise11() {
        Edge.sentence("4 who KNOWS it, as bits. NONE when there is none such, or for others.");
        SpongeClerks x = Check.office(A);
        Edge.put(x, 5, new int[][] {{0, 8, 1}, {1, 0, 2}, {3, 3, 0}}, new int[][] {{6, 9999, 8}, {7, 0, 300}});
        int[] matters = {LEAST, -1, 0, 1, 2, 3, 4, MOST};
        int[] whats = {LEAST, -1, 0, 1, 2, 3, 4, 5, MOST};
        int[][] wants = {{11, 6, 9999, 8, 5}, {3, 7, 0, 300, 3}};
        for (int matter : matters) {
            for (int what : whats) {
                int want = within(matter, 0, 1) && within(what, 0, 4) ? wants[matter][what] : -1;
                Edge.due("matter(" + matter + ", " + what + ")", x.matter(matter, what), want);
            }
        }
        // Seven CLERKS, the first bit 1, the last 64.
        StringBuilder text = new StringBuilder("seats 7;matter m;");
        for (int k = 0; k < 7; k++) {
            text.append("clerk ").append((char) ('a' + k)).append(" at ").append(k).append(" room 1;");
        }
        x = Check.office(text.toString());
        Edge.due("none", x.matter(0, 4), 0);
        x.tell(6, 0, 1);
        Edge.due("the last", x.matter(0, 4), 64);
        x.tell(0, 0, 1);
        Edge.due("and the first", x.matter(0, 4), 65);
        for (int k = 1; k < 6; k++) {
            x.tell(k, 0, 1);
        }
        Edge.due("all", x.matter(0, 4), 127);
    }

    private static void promise12() {
        Edge.sentence("NONE when none sits there, there are none such, or for others.");
        SpongeClerks x = Check.office(A);
        int[] clerks = {LEAST, -1, 0, 1, 2, 3, MOST};
        int[] sides = {LEAST, -1, 0, 1, 2, MOST};
        int[] matters = {LEAST, -1, 0, 1, 2, MOST};
        for (int clerk : clerks) {
            for (int side : sides) {
                for (int matter : matters) {
                    boolean next = clerk == 0 && side == 1 || clerk == 1 && side == 0;
                    int want = next && within(matter, 0, 1) ? clerk == 0 && matter == 0 ? 2 : 0 : -1;
                    Edge.due("leak(" + clerk + ", " + side + ", " + matter + ")", x.leak(clerk, side, matter), want);
                }
            }
        }
        Twins.looks("leak(1, 1, 0): bo and cy sit at 2 and 3 now", PromiseEdgeTest::busy, z -> z.leak(1, 1, 0), 0);
        Twins.looks("leak(0, 1, 0): seat 1 is empty now", PromiseEdgeTest::busy, z -> z.leak(0, 1, 0), -1);
    }

    private static void promise13() {
        Edge.sentence("Of what is told as KEPT, the k-th from the oldest on: 0 DAY, 1 drops that went over, 2 who is FULL. NONE when there is none such, or for others.");
        int[] manys = {0, 1, 2, 40, 41};
        int[] whats = {LEAST, -1, 0, 1, 2, 3, MOST};
        for (int many : manys) {
            SpongeClerks x = Check.office("seats 2;matter m;clerk a at 0 room 5;clerk b at 1 room 3;told a of m 5;leaks (1-seat)*min(1,day);");
            if (many > 0) {
                x.days(many);
            }
            int told = Math.min(40, many);
            int[] ks = {LEAST, -1, 0, 1, 2, told - 1, told, told + 1, MOST};
            for (int k : ks) {
                for (int what : whats) {
                    int day = many - told + k;
                    int[] row = {day, within(day, 1, 3) ? 1 : 0, day == 0 || day >= 3 ? 1 : 0};
                    int want = k >= 0 && k < told && within(what, 0, 2) ? row[what] : -1;
                    Edge.due("kept(" + k + ", " + what + ") of " + many, x.kept(k, what), want);
                }
            }
        }
    }

    // ---- ahead

    private static void promises14and15() {
        Edge.sentence("The drops of a MATTER in a CLERK behind n DAYS AHEAD (0 .. 60); NONE when there are none such, or n can't be.");
        SpongeClerks x = Check.office(A);
        int[] n = {LEAST, -1, 0, 1, 2, 60, 61, MOST};
        int[] abe = {-1, -1, 8, 6, 5, 5, -1, -1};
        int[] clerks = {LEAST, -1, 3, 7, MOST};
        int[] matters = {LEAST, -1, 2, 4, MOST};
        for (int k = 0; k < n.length; k++) {
            Edge.due("later(0, 0, " + n[k] + ")", x.later(0, 0, n[k]), abe[k]);
            Edge.due("later(2, 1, " + n[k] + ")", x.later(2, 1, n[k]), abe[k] < 0 ? -1 : 0);
            for (int clerk : clerks) {
                Edge.due("later(" + clerk + ", 0, " + n[k] + ")", x.later(clerk, 0, n[k]), -1);
            }
            for (int matter : matters) {
                Edge.due("later(0, " + matter + ", " + n[k] + ")", x.later(0, matter, n[k]), -1);
            }
        }
        Twins.looks("later", PromiseEdgeTest::busy, z -> z.later(2, 1, 60), 0);
        Twins.looks("later", PromiseEdgeTest::busy, z -> z.later(2, 1, 61), -1);
        Edge.sentence("Who KNOWS a MATTER behind n DAYS AHEAD (0 .. 60), as bits; NONE when there is none such, or n can't be.");
        int[] bits = {-1, -1, 5, 7, 7, 7, -1, -1};
        for (int k = 0; k < n.length; k++) {
            Edge.due("knows(0, " + n[k] + ")", x.knows(0, n[k]), bits[k]);
            Edge.due("knows(1, " + n[k] + ")", x.knows(1, n[k]), bits[k] < 0 ? -1 : 2);
            for (int matter : matters) {
                Edge.due("knows(" + matter + ", " + n[k] + ")", x.knows(matter, n[k]), -1);
            }
        }
        Edge.due("no CLERKS", Check.office("seats 2;matter m;").knows(0, 60), 0);
        Twins.looks("knows", PromiseEdgeTest::busy, z -> z.knows(1, 61), -1);
    }

    private static void promise16() {
        Edge.sentence("Behind how many DAYS AHEAD (0: now) a CLERK KNOWS a MATTER first; NONE when he does not, or there are none such.");
        // Each drop goes on by one seat a DAY, against the order of the seats.
        StringBuilder text = new StringBuilder("seats 9;matter m;");
        for (int k = 0; k < 7; k++) {
            text.append("clerk ").append((char) ('a' + k)).append(" at ").append(8 - k).append(" room 9;");
        }
        SpongeClerks x = Check.office(text + "told a of m 9;leaks drops-1;");
        // From seat 8 on: to seat 7 on DAY 0, and so on, as a CLERK keeps one drop and the rest goes to the seat less.
        for (int k = 0; k < 7; k++) {
            Edge.due("hears(" + k + ", 0)", x.hears(k, 0), k);
        }
        int[] odd = {LEAST, -1, 7, MOST};
        for (int other : odd) {
            Edge.due("no such CLERK", x.hears(other, 0), -1);
            Edge.due("no such MATTER", x.hears(0, other), -1);
        }
        Edge.due("no such MATTER", x.hears(0, 1), -1);
        x.rinse(0);
        Edge.due("he does not", x.hears(0, 0), -1);
        Twins.looks("hears", PromiseEdgeTest::busy, z -> z.hears(2, 1), -1);
    }

    // ---- seats, squeezes

    private static void promise17() {
        Edge.sentence("NONE when none is better, there is none such, n can't be, or for others.");
        // Bo gives cy a drop from DAY d on, unless a seat is between them.
        String text = "seats 4;matter m;clerk b at 0 room 9;clerk c at 1 room 9;told b of m 3;leaks min(drops-1,max(0,day-";
        SpongeClerks x = Check.office(text + "29+1));");
        int[] n = {LEAST, -1, 0, 1, 29, 30, 31, MOST};
        for (int days : n) {
            boolean better = days == 30;
            Edge.due("less, n " + days, x.discreet(0, days, 0), better ? 0 : -1);
            Edge.due("more, n " + days, x.discreet(0, days, 1), better ? 3 : -1);
            Edge.due("how many, n " + days, x.discreet(0, days, 2), better ? 1 : -1);
        }
        int[] odd = {LEAST, -1, 1, 4, MOST};
        for (int matter : odd) {
            Edge.due("no such MATTER", x.discreet(matter, 30, 0), -1);
        }
        int[] whats = {LEAST, -1, 3, MOST};
        for (int what : whats) {
            Edge.due("what " + what, x.discreet(0, 30, what), -1);
        }
        x = Check.office(text + "0+1));");
        int[][] rows = {{969, 30, 1}, {970, 29, 1}, {970, 30, -1}, {998, 1, 1}, {998, 2, -1}, {999, 1, -1}};
        for (int[] row : rows) {
            Edge.put(x, row[0], new int[][] {{0, 3}, {1, 0}}, new int[][] {{0, 0, 0}});
            Edge.due("DAY " + row[0] + ", n " + row[1], x.discreet(0, row[1], 2), row[2]);
        }
        Edge.due("no CLERKS", Check.office("seats 9;matter m;").discreet(0, 1, 2), -1);
        Twins.looks("discreet", PromiseEdgeTest::busy, z -> z.discreet(0, 31, 2), -1);
        Twins.looks("discreet", PromiseEdgeTest::busy, z -> Math.min(0, z.discreet(0, 30, 2)), busy().discreet(0, 30, 2) < 0 ? -1 : 0);
    }

    private static void promise18() {
        Edge.sentence("NONE when all are not enough, there are none such, or n can't be.");
        // Abe gives bo a drop from DAY 29 on.
        String text = "seats 2;matter m;clerk a at 0 room 9;clerk b at 1 room 9;told a of m 3;leaks (1-seat)*min(1,max(0,day-";
        SpongeClerks x = Check.office(text + "29+1));");
        int[] n = {LEAST, -1, 0, 1, 29, 30, 31, MOST};
        int[] bits = {-1, -1, -1, 0, 0, 1, -1, -1};
        for (int k = 0; k < n.length; k++) {
            Edge.due("bo, n " + n[k], x.pressed(1, 0, n[k]), bits[k]);
            Edge.due("abe has it anyway, n " + n[k], x.pressed(0, 0, n[k]), -1);
        }
        int[] odd = {LEAST, -1, 2, 7, MOST};
        for (int other : odd) {
            Edge.due("no such CLERK", x.pressed(other, 0, 1), -1);
            Edge.due("no such MATTER", x.pressed(1, other, 1), -1);
        }
        Edge.due("no such MATTER", x.pressed(1, 1, 1), -1);
        x = Check.office(text + "0+1));");
        int[][] rows = {{969, 30, 1}, {970, 29, 1}, {970, 30, -1}, {998, 1, 1}, {998, 2, -1}, {999, 1, -1}};
        for (int[] row : rows) {
            Edge.put(x, row[0], new int[][] {{0, 3}, {1, 0}}, new int[][] {{0, 0, 0}});
            Edge.due("DAY " + row[0] + ", n " + row[1], x.pressed(1, 0, row[1]), row[2]);
        }
        Edge.due("one CLERK alone, dry", Check.office("seats 2;matter m;clerk a at 0 room 9;").pressed(0, 0, 30), 0);
        Edge.due("one CLERK alone, not dry", Check.office("seats 2;matter m;clerk a at 0 room 9;told a of m 1;").pressed(0, 0, 30), -1);
        // Each drop goes on by one seat a DAY, down to seat 0, where the last of seven CLERKS sits.
        StringBuilder row = new StringBuilder("seats 7;matter m;");
        for (int k = 0; k < 6; k++) {
            char name = (char) ('a' + k);
            row.append("clerk ").append(name).append(" at ").append(k + 1).append(" room 9;told ").append(name).append(" of m 1;");
        }
        x = Check.office(row + "clerk g at 0 room 9;leaks 1;");
        int[] many = {1, 2, 5, 6, 7, 30};
        for (int days : many) {
            Edge.due("those less than " + days + " seats off", x.pressed(6, 0, days), (1 << Math.min(6, days)) - 1);
        }
        Twins.looks("pressed", PromiseEdgeTest::busy, z -> z.pressed(0, 1, 31), -1);
        long due = busy().pressed(2, 0, 30);
        Twins.looks("pressed", PromiseEdgeTest::busy, z -> z.pressed(2, 0, 30), due);
    }

    private static void promise19() {
        Edge.sentence("MOPS, as bits; NONE when all are not enough, or without a registry.");
        Edge.due("without a registry", new SpongeClerks().mops(), -1);
        Edge.due("with one alone", Check.office("seats 2;").mops(), 0);
        // All together can hold 2 + 4 + 5 more.
        int[] spilt = {0, 1, 2, 3, 4, 5, 6, 7, 8, 9, 10, 11, 12, 9999};
        int[] wants = {0, 1, 1, 2, 2, 4, 3, 5, 6, 6, 7, 7, -1, -1};
        SpongeClerks x = Check.office(A);
        for (int k = 0; k < spilt.length; k++) {
            Edge.put(x, 0, new int[][] {{0, 8, 0}, {1, 0, 2}, {3, 3, 0}}, new int[][] {{0, 0, 0}, {spilt[k], 9, 9}});
            Edge.due(spilt[k] + " on the FLOOR", x.mops(), wants[k]);
        }
        Twins.looks("mops", PromiseEdgeTest::busy, SpongeClerks::mops, busy().mops());
    }

    private static void promise20() {
        Edge.sentence("DESKS: the CLERK for a MATTER; NONE when there is no such row, or none such.");
        SpongeClerks x = Check.office("seats 3;matter m;matter w;clerk a at 0 room 5;clerk b at 1 room 4;told a of m 2;told b of m 3;");
        int[] matters = {LEAST, -1, 0, 1, 2, 3, 4, MOST};
        int[] wants = {-1, -1, 0, 1, -1, -1, -1, -1};
        for (int k = 0; k < matters.length; k++) {
            Edge.due("desks(" + matters[k] + ")", x.desks(matters[k]), wants[k]);
        }
        x.tell(1, 0, 1);
        Edge.due("six of m: no row", x.desks(0), -1);
        Edge.due("so none for w either", x.desks(1), -1);
        Twins.looks("desks", PromiseEdgeTest::busy, z -> z.desks(2), -1);
    }

    // ---- from whom

    private static void promise21() {
        Edge.sentence("1 to 16 rows of four bytes: how many rows; NONE, refused (1), all staying, when it is none such (more than 99 drops, too).");
        for (int bytes = 0; bytes <= 72; bytes++) {
            SpongeClerks x = Check.office(A);
            Check.see(x, 0, 0, 0, 8);
            boolean fits = bytes > 0 && bytes % 4 == 0 && bytes <= 64;
            Edge.due(bytes + " bytes", Check.see(x, new int[bytes]), fits ? bytes / 4 : -1);
            Edge.due("has(8)", x.has(8), fits ? bytes / 4 : 1);
            Edge.due("refused", x.status(1), fits ? 0 : 1);
            Edge.due("the tape goes", x.end(1), false);
        }
        int[][] rows = {{30, 0, 0, 0, 1}, {31, 0, 0, 0, 0}, {255, 0, 0, 0, 0}, {0, 2, 0, 0, 1}, {0, 3, 0, 0, 0}, {0, 255, 0, 0, 0}, {0, 0, 1, 0, 1},
            {0, 0, 2, 0, 0}, {0, 0, 255, 0, 0}, {0, 0, 0, 98, 1}, {0, 0, 0, 99, 1}, {0, 0, 0, 100, 0}, {0, 0, 0, 255, 0}};
        for (int[] row : rows) {
            SpongeClerks x = Check.office(A);
            Edge.due("a row " + java.util.Arrays.toString(row), Check.see(x, row[0], row[1], row[2], row[3]), row[4] == 1 ? 1 : -1);
            int[] sixteen = new int[64];
            System.arraycopy(row, 0, sixteen, 60, 4);
            Edge.due("the last of 16", Check.see(x, sixteen), row[4] == 1 ? 16 : -1);
            if (row[4] == 0) {
                Twins.refusedWithTape("see", PromiseEdgeTest::busy, z -> Check.see(z, row[0], row[1], row[2], row[3]), -1, 1);
            }
        }
        Twins.refusedWithTape("see nothing", PromiseEdgeTest::busy, z -> Check.see(z), -1, 1);
        Twins.refusedWithTape("see 17 rows", PromiseEdgeTest::busy, z -> Check.see(z, new int[68]), -1, 1);
        Twins.refusedWithTape("see without a registry", PromiseEdgeTest::empty, z -> Check.see(z, 0, 0, 0, 0), -1, 1);
        Edge.due("no CLERKS", Check.see(Check.office("seats 2;matter m;"), 0, 0, 0, 0), -1);
        Edge.due("no MATTERS", Check.see(Check.office("seats 2;clerk a at 0 room 9;"), 0, 0, 0, 0), -1);
    }

    private static void promise22() {
        Edge.sentence("SOURCES by what is SEEN (all, if nothing is), of so many drops (0 .. 99) of a MATTER, as bits; DAYS beyond 999 are by none. NONE when there is none such, or for others.");
        SpongeClerks x = Check.office(A);
        int[] much = {LEAST, -1, 0, 1, 98, 99, 100, MOST};
        for (int drops : much) {
            Edge.due("nothing is SEEN, " + drops, x.sources(0, drops), within(drops, 0, 99) ? 7 : -1);
            Edge.due("nothing is SEEN, " + drops, x.sources(1, drops), within(drops, 0, 99) ? 7 : -1);
        }
        int[] odd = {LEAST, -1, 2, 3, 4, MOST};
        for (int matter : odd) {
            Edge.due("MATTER " + matter, x.sources(matter, 1), -1);
        }
        Edge.due("no CLERKS", Check.office("seats 2;matter m;").sources(0, 5), 0);
        // A row 5 DAYS AHEAD, on DAY 993 .. 995: nothing leaks, abe alone would have 9.
        String still = "seats 2;matter m;clerk a at 0 room 99;clerk b at 1 room 99;told a of m 8;leaks 0;";
        int[][] days = {{993, 1}, {994, 1}, {995, 0}, {999, 0}};
        for (int[] row : days) {
            x = Check.office(still);
            Edge.put(x, row[0], new int[][] {{0, 8}, {1, 0}}, new int[][] {{0, 0, 0}});
            Check.see(x, 5, 0, 0, 9);
            Edge.due("DAY " + row[0], x.sources(0, 1), row[1]);
            Check.see(x, 0, 0, 0, 9, 5, 0, 0, 9);
            Edge.due("two rows, DAY " + row[0], x.sources(0, 1), row[1]);
            Check.see(x, 5, 0, 0, 9, 0, 0, 0, 9);
            Edge.due("the other way, DAY " + row[0], x.sources(0, 1), row[1]);
            Check.see(x, 0, 0, 0, 9);
            Edge.due("now, DAY " + row[0], x.sources(0, 1), 1);
            Check.see(x, 5, 0, 0, 8);
            Edge.due("nothing is told, DAY " + row[0], x.sources(0, 0), row[1] == 1 ? 3 : 0);
            Edge.due("tells, DAY " + row[0], x.tells(0, 0, 2), row[1] == 1 ? 2 : -1);
        }
        Twins.looks("sources", PromiseEdgeTest::busy, z -> z.sources(0, 100), -1);
    }

    private static void promise23() {
        Edge.sentence("how many SOURCES are left at the most (2). NONE without any, when there is none such, or for others.");
        SpongeClerks x = Check.office("seats 3;matter m;clerk a at 0 room 99;clerk b at 2 room 99;");
        int[] much = {LEAST, -1, 0, 1, 99, 100, MOST};
        int[] left = {-1, -1, 2, 1, 1, -1, -1};
        for (int k = 0; k < much.length; k++) {
            Edge.due("how many, " + much[k], x.tells(0, much[k], 2), left[k]);
            Edge.due("DAY, " + much[k], x.tells(0, much[k], 0), left[k] < 0 ? -1 : 0);
            Edge.due("CLERK, " + much[k], x.tells(0, much[k], 1), left[k] < 0 ? -1 : 0);
        }
        int[] odd = {LEAST, -1, 1, 4, MOST};
        for (int matter : odd) {
            Edge.due("MATTER " + matter, x.tells(matter, 1, 2), -1);
        }
        int[] whats = {LEAST, -1, 3, MOST};
        for (int what : whats) {
            Edge.due("what " + what, x.tells(0, 1, what), -1);
        }
        Check.see(x, 0, 0, 0, 1);
        Edge.due("one of them", x.tells(0, 1, 2), 1);
        Edge.due("none of them", x.tells(0, 2, 2), -1);
        Edge.due("none of them", x.tells(0, 2, 0), -1);
        Edge.due("none of them", x.tells(0, 2, 1), -1);
        Edge.due("no CLERKS", Check.office("seats 2;matter m;").tells(0, 5, 0), -1);
        Twins.looks("tells", PromiseEdgeTest::busy, z -> z.tells(0, 100, 0), -1);
        Twins.looks("tells", PromiseEdgeTest::busy, z -> z.tells(1, 9, 2), busy().tells(1, 9, 2));
    }

    // ---- acts

    private static void promise24() {
        Edge.sentence("A CLERK is told so many drops (1 .. 99) of a MATTER: how many went to the FLOOR; NONE, refused (2), when these would be more than 9999 there, there are none such, or for others.");
        int[] much = {LEAST, -1, 0, 1, 2, 3, 98, 99, 100, MOST};
        for (int drops : much) {
            boolean fits = within(drops, 1, 99);
            SpongeClerks x = Check.office(A);
            Edge.due("tell " + drops, x.tell(0, 0, drops), fits ? Math.max(0, drops - 2) : -1);
            Edge.due("refused", x.status(2), fits ? 0 : 1);
            if (!fits) {
                Twins.refused("tell " + drops, PromiseEdgeTest::busy, z -> z.tell(0, 0, drops), -1, 2);
            }
        }
        int[] odd = {LEAST, -1, 3, 7, MOST};
        for (int other : odd) {
            Twins.refused("CLERK " + other, PromiseEdgeTest::busy, z -> z.tell(other, 0, 1), -1, 2);
            Twins.refused("MATTER " + other, PromiseEdgeTest::busy, z -> z.tell(0, other, 1), -1, 2);
        }
        Twins.refused("MATTER 2", PromiseEdgeTest::busy, z -> z.tell(0, 2, 1), -1, 2);
        Twins.refused("more than 9999", PromiseEdgeTest::flooded, z -> z.tell(1, 0, 6), -1, 2);
        SpongeClerks x = flooded();
        Edge.due("as many as 9999", x.tell(1, 0, 5), 1);
        Edge.due("there are", x.matter(0, 1), 9999);
    }

    /** On the FLOOR are 9998 of m; bo can hold 4 more. */
    private static SpongeClerks flooded() {
        SpongeClerks x = Check.office(A);
        Edge.put(x, 7, new int[][] {{0, 8, 2}, {1, 0, 2}, {3, 3, 0}}, new int[][] {{9998, 0, 0}, {0, 0, 0}});
        x.days(1);
        Check.tape(x, Check.bytes("total full"));
        x.undo();
        x.tell(2, 1, 1);
        return x;
    }

    private static void promises25and26() {
        String[] words = {"A CLERK is squeezed: how many drops; NONE, refused (2), when he has none, or there is none such.",
            "A CLERK is rinsed: how many drops; NONE, refused (2), when he has none, or there is none such."};
        int[] odd = {LEAST, -1, 3, 7, MOST};
        for (int which = 0; which < 2; which++) {
            boolean squeezed = which == 0;
            Edge.sentence(words[which]);
            for (int drops = 0; drops <= 2; drops++) {
                SpongeClerks x = Check.office(TWO + "told b of m " + drops + ";");
                Edge.due("of " + drops, squeezed ? x.squeeze(1) : x.rinse(1), drops == 0 ? -1 : drops);
                Edge.due("again", squeezed ? x.squeeze(1) : x.rinse(1), -1);
                Edge.due("refused", x.status(2), drops == 0 ? 2 : 1);
                Edge.due("ACTS", x.has(9), drops == 0 ? 0 : 1);
                Edge.due("READ", x.matter(0, 2), squeezed ? drops : 0);
                Edge.due("RINSED", x.matter(0, 3), squeezed ? 0 : drops);
            }
            for (int other : odd) {
                Twins.refused("CLERK " + other, PromiseEdgeTest::busy, z -> squeezed ? z.squeeze(other) : z.rinse(other), -1, 2);
            }
            // Bo was rinsed in the end.
            Twins.refused("he has none", PromiseEdgeTest::busy, z -> squeezed ? z.squeeze(1) : z.rinse(1), -1, 2);
        }
    }

    private static void promise27() {
        Edge.sentence("A CLERK mops: how many drops; NONE, refused (2), when he takes none, or there is none such.");
        // So many on the FLOOR, so many can he hold.
        for (int spilt = 0; spilt <= 3; spilt++) {
            for (int space = 0; space <= 3; space++) {
                SpongeClerks x = Check.office("seats 2;matter m;matter w;clerk a at 0 room 9;");
                Edge.put(x, 0, new int[][] {{0, 9 - space, 0}}, new int[][] {{0, 0, 0}, {spilt, 0, 0}});
                int taken = Math.min(spilt, space);
                Edge.due("of " + spilt + ", space " + space, x.mop(0), taken == 0 ? -1 : taken);
                Edge.due("refused", x.status(2), taken == 0 ? 1 : 0);
                Edge.due("ACTS", x.has(9), taken == 0 ? 0 : 1);
                Edge.due("left", x.has(5), spilt - taken);
                Edge.due("FULL", x.clerk(0, 2), 9 - space + taken);
            }
        }
        int[] odd = {LEAST, -1, 3, 7, MOST};
        for (int other : odd) {
            Twins.refused("CLERK " + other, PromiseEdgeTest::busy, z -> z.mop(other), -1, 2);
        }
        Twins.refused("he can hold none", PromiseEdgeTest::flooded, z -> z.mop(0), -1, 2);
        Twins.refused("nothing there", () -> Check.office(A), z -> z.mop(2), -1, 2);
    }

    private static void promise28() {
        Edge.sentence("Two seats change who sits there: true; false, refused (2), when both are empty, they are one, or there are none such.");
        int[] seats = {LEAST, -1, 0, 1, 2, 3, 4, 9, MOST};
        for (int one : seats) {
            for (int other : seats) {
                // Abe sits on seat 1, the others are empty.
                SpongeClerks x = Check.office("seats 4;matter m;clerk a at 1 room 9;");
                boolean there = within(one, 0, 3) && within(other, 0, 3);
                boolean fits = there && one != other && (one == 1 || other == 1);
                Edge.due("change(" + one + ", " + other + ")", x.change(one, other), fits);
                Edge.due("refused", x.status(2), fits ? 0 : 1);
                Edge.due("ACTS", x.has(9), fits ? 1 : 0);
                Edge.due("abe's seat", x.clerk(0, 0), fits ? one + other - 1 : 1);
                for (int seat = 0; seat < 4; seat++) {
                    Edge.due("seat(" + seat + ")", x.seat(seat), seat == x.clerk(0, 0) ? 0 : -1);
                }
            }
        }
        Twins.refused("they are one", PromiseEdgeTest::busy, z -> z.change(0, 0) ? 1 : 0, 0, 2);
        Twins.refused("there are none such", PromiseEdgeTest::busy, z -> z.change(0, 4) ? 1 : 0, 0, 2);
        Twins.refused("there are none such", PromiseEdgeTest::busy, z -> z.change(-1, 0) ? 1 : 0, 0, 2);
        Twins.refused("both are empty", () -> Check.office("seats 4;clerk a at 1 room 9;"), z -> z.change(2, 3) ? 1 : 0, 0, 2);
    }

    private static void promises29and30() {
        String[] words = {"n DAYS (1 .. 100): how many drops went over; NONE, refused (3), when it can't be, or without a registry.",
            "n DAYS by the seed (1 .. 100), one ACT: how many hands were shaken; NONE, refused (3), when it can't be, or without a registry."};
        int[] manys = {LEAST, -1, 0, 1, 2, 99, 100, 101, MOST};
        int[][] late = {{899, 100, 1}, {900, 100, 0}, {900, 99, 1}, {997, 2, 1}, {997, 3, 0}, {998, 1, 1}, {998, 2, 0}, {999, 1, 0}};
        for (int which = 0; which < 2; which++) {
            boolean plain = which == 0;
            Edge.sentence(words[which]);
            for (int n : manys) {
                boolean fits = within(n, 1, 100);
                // One drop goes over each DAY; no hands are shaken, or by each DAY one.
                SpongeClerks x = Check.office(TWO + "told a of m 99;hand 100;leaks (1-seat)*1;");
                Edge.due("n " + n, plain ? Math.min(99, x.days(n)) : x.chance(n), fits ? plain ? Math.min(99, n) : n : -1);
                Edge.due("DAY", x.has(3), fits ? n : 0);
                Edge.due("ACTS", x.has(9), fits ? 1 : 0);
                Edge.due("KEPT", x.has(7), fits ? Math.min(40, n) : 0);
                Edge.due("refused", x.status(3), fits ? 0 : 1);
                if (!fits) {
                    Twins.refused("n " + n, PromiseEdgeTest::busy, z -> plain ? z.days(n) : z.chance(n), -1, 3);
                }
            }
            for (int[] row : late) {
                SpongeClerks x = Check.office(TWO + "hand 100;");
                Edge.put(x, row[0], new int[][] {{0, 0}, {1, 0}}, new int[][] {{0, 0, 0}});
                Edge.due("DAY " + row[0] + ", n " + row[1], plain ? x.days(row[1]) : x.chance(row[1]), row[2] == 0 ? -1 : plain ? 0 : row[1]);
                Edge.due("DAY then", x.has(3), row[0] + (row[2] == 0 ? 0 : row[1]));
                Edge.due("refused", x.status(3), 1 - row[2]);
            }
            Twins.refused("without a registry", PromiseEdgeTest::empty, z -> plain ? z.days(1) : z.chance(1), -1, 3);
            Edge.due("no CLERKS", plain ? Check.office("seats 2;").days(100) : Check.office("seats 2;hand 100;").chance(100), 0);
        }
    }

    private static void promise31() {
        Edge.sentence("The latest ACT is undone (the seed stays): true; false, refused (4), when none can be.");
        Twins.refused("none", () -> Check.office(A), z -> z.undo() ? 1 : 0, 0, 4);
        // Each ACT undone leaves all as it was.
        Twins.Call[] acts = {z -> z.tell(2, 1, 20), z -> z.squeeze(2), z -> z.rinse(0), z -> z.mop(2), z -> z.change(0, 1) ? 1 : 0,
            z -> z.change(2, 3) ? 1 : 0, z -> z.days(1), z -> z.days(100)};
        for (int k = 0; k < acts.length; k++) {
            SpongeClerks x = busy();
            SpongeClerks y = busy();
            Edge.due("ACT " + k, acts[k].on(x) >= 0, true);
            Edge.due("one more", x.has(9), y.has(9) + 1);
            Edge.due("undo", x.undo(), true);
            Twins.alike("ACT " + k + " undone", x, y);
        }
        // What is refused is no ACT; nor are seed, image, see, ask.
        SpongeClerks x = Check.office(A);
        x.tell(0, 0, 0);
        x.squeeze(7);
        x.change(0, 0);
        x.days(0);
        x.chance(101);
        x.seed(3);
        x.image();
        Check.see(x, 0, 0, 0, 0);
        Check.ask(x, "often all");
        Edge.due("no ACT", x.has(9), 0);
        Edge.due("no ACT", x.undo(), false);
        // The seed goes on from where the undone DAYS left it.
        x = Check.office(TWO + "hand 100;");
        SpongeClerks y = Check.office(TWO + "hand 100;");
        x.chance(2);
        y.chance(2);
        x.undo();
        Edge.due("the DAY is back", x.has(3), 0);
        int next = Edge.draw(1, 6, 100);
        Check.registry(x, TWO + "hand " + next + ";");
        Edge.due("six DRAWS were made: not below", x.chance(1), 0);
        Check.registry(y, TWO + "hand " + (next + 1) + ";");
        Edge.due("six DRAWS were made: below", y.chance(1), 1);
    }

    private static void promise32() {
        Edge.sentence("The seed: true; false, refused (5), when it is below 0. (It is 1 at first.)");
        int[] seeds = {LEAST, LEAST + 1, -2, -1, 0, 1, 2, MOST - 1, MOST};
        for (int seed : seeds) {
            int then = seed < 0 ? 1 : seed;
            int draw = Edge.draw(then, 0, 100);
            for (int more = 0; more < 2; more++) {
                SpongeClerks x = Check.office(TWO + "hand " + (draw + more) + ";");
                Edge.due("seed(" + seed + ")", x.seed(seed), seed >= 0);
                Edge.due("refused", x.status(5), seed < 0 ? 1 : 0);
                Edge.due("the first DRAW, hand " + (draw + more), x.chance(1), more);
            }
        }
        Twins.refused("seed(-1)", PromiseEdgeTest::busy, z -> z.seed(-1) ? 1 : 0, 0, 5);
        Twins.refused("the least seed", PromiseEdgeTest::empty, z -> z.seed(LEAST) ? 1 : 0, 0, 5);
        Twins.looks("seed(77), as it is", PromiseEdgeTest::busy, z -> z.seed(77) ? 1 : 0, 1);
    }

    // ---- questions

    private static void promise33() {
        Edge.sentence("NONE of first, last, when its TEST holds for none; NOTHING with a FAULT, or, doing nothing else, without a registry.");
        SpongeClerks x = Check.office(A);
        Edge.answer(x, "first full<0", -1);
        Edge.answer(x, "last full<0", -1);
        Edge.answer(x, "often full<0", 0);
        Edge.answer(x, "first full<3", 1);
        Edge.answer(x, "last full<3", 1);
        // A number below 0 is an answer, too.
        Edge.answer(x, "total 0-1000*1000", -3000000);
        Edge.answer(x, "least 0-1", -1);
        String[] wrong = {"", "often", "often foo=1", "often all;", "total (((((((1", "total 12345", "first 1", "most all"};
        for (String text : wrong) {
            Twins.Maker maker = PromiseEdgeTest::busy;
            SpongeClerks y = maker.make();
            SpongeClerks z = maker.make();
            Edge.due(text, Check.ask(y, text), NOTHING);
            Edge.due("the tape goes", y.end(1), false);
            Edge.due("with a FAULT", y.fault(0) > 0, true);
            z.end(0);
            z.end(1);
            for (int k = 0; k < 6; k++) {
                Edge.due("nothing is refused", y.status(k), z.status(k));
            }
            Twins.alike("all stays: " + text, y, z);
        }
        SpongeClerks y = new SpongeClerks();
        Edge.due("without a registry", Check.ask(y, "often all"), NOTHING);
        Edge.due("the tape goes", y.end(1), false);
        Edge.due("no FAULT", y.fault(0), 0);
        Edge.due("no place", y.fault(1), -1);
        Edge.due("with a FAULT, without a registry", Check.ask(y, "often"), NOTHING);
        Edge.due("no FAULT", y.fault(0), 0);
        Check.registry(y, "seats");
        Edge.due("without a registry still", Check.ask(y, "often all"), NOTHING);
        Edge.due("the FAULT stays", y.fault(0), 1);
        Edge.due("its place stays", y.fault(1), 5);
        for (int k = 1; k < 6; k++) {
            Edge.due("status(" + k + ")", y.status(k), k == 1 ? 1 : 0);
        }
        Check.registry(y, "seats 2;");
        Edge.due("with one", Check.ask(y, "often all"), 0);
        // The longest question that the tape holds.
        StringBuilder text = new StringBuilder("total 0");
        while (text.length() < 1599) {
            text.append("+1");
        }
        x = Check.office("seats 2;clerk a at 0 room 1;");
        Edge.answer(x, text.toString(), (1599 - 7) / 2);
    }

    // ---- images, refusals

    private static void promises34and35() {
        Edge.sentence("AN IMAGE is written: how many bytes.");
        for (int matters = 0; matters <= 4; matters++) {
            for (int clerks = 0; clerks <= 7; clerks++) {
                StringBuilder text = new StringBuilder("seats 9;");
                for (int k = 0; k < matters; k++) {
                    text.append("matter m").append((char) ('a' + k)).append(';');
                }
                for (int k = 0; k < clerks; k++) {
                    text.append("clerk c").append((char) ('a' + k)).append(" at ").append(8 - k).append(" room 9;");
                }
                SpongeClerks x = Check.office(text.toString());
                int bytes = 2 + clerks * (1 + matters) + 6 * matters + 1;
                Edge.due(clerks + " CLERKS, " + matters + " MATTERS", x.image(), bytes);
                Edge.due("ahead of the first", x.octet(-1), -1);
                Edge.due("the first", x.octet(0), 0);
                Edge.due("the last is there", x.octet(bytes - 1) >= 0, true);
                Edge.due("behind the last", x.octet(bytes), -1);
                Edge.due("a seat", x.octet(2), clerks > 0 ? 8 : matters > 0 ? 0 : x.octet(2));
            }
        }
        Edge.due("without a registry", new SpongeClerks().image(), 3);
        Edge.sentence("Byte k of the latest image(); NONE when there is none such.");
        SpongeClerks x = Check.office(A);
        Edge.due("ahead of any", x.octet(0), -1);
        Edge.due("bytes", x.image(), 24);
        int[] odd = {LEAST, -1, 24, 25, 63, 64, MOST};
        for (int k : odd) {
            Edge.due("octet(" + k + ")", x.octet(k), -1);
        }
        int[] want = Check.sealed(0, 0, 0, 8, 0, 1, 0, 2, 3, 3, 0, 0, 0, 0, 0, 0, 0, 0, 0, 0, 0, 0, 0);
        for (int k = 0; k < 24; k++) {
            Edge.due("octet(" + k + ")", x.octet(k), want[k]);
        }
        x.days(1);
        Edge.due("the latest image() is as it was", x.octet(1), 0);
        x.image();
        Edge.due("a new one", x.octet(1), 1);
        Check.registry(x, "seats 2;");
        Edge.due("no image() since", x.octet(23) >= 0, true);
        Edge.due("a shorter one", x.image(), 3);
        Edge.due("is the latest", x.octet(3), -1);
        Edge.due("and its last byte", x.octet(2), 213);
        Twins.looks("octet", PromiseEdgeTest::busy, z -> z.octet(24), -1);
    }

    private static long on(SpongeClerks x, int[] image) {
        return Check.on(x, image) ? 1 : 0;
    }

    private static void promise36() {
        Edge.sentence("when it is none (DAY 999, 9999 of a MATTER at most; seats that there are, no two on one; no CLERK fuller than his room), or without a registry, all staying.");
        int[][] seats = {{2, 4, 6}, {1, 0, 6}, {0, 8, 0}};
        int[][] pools = {{9999, 9999, 9999}, {9999, 9999, 9999}};
        Edge.due("at its most", Edge.put(Check.office(A), 999, seats, pools), true);
        refusedImage("DAY 1000", Edge.picture(1000, seats, pools));
        refusedImage("DAY 65535", Edge.picture(65535, seats, pools));
        for (int matter = 0; matter < 2; matter++) {
            for (int where = 0; where < 3; where++) {
                int[][] more = {pools[0].clone(), pools[1].clone()};
                more[matter][where] = 10000;
                refusedImage("10000 of MATTER " + matter, Edge.picture(999, seats, more));
                more[matter][where] = 65535;
                refusedImage("65535 of MATTER " + matter, Edge.picture(999, seats, more));
                more[matter][where] = 9998;
                Edge.due("9998", Edge.put(Check.office(A), 999, seats, more), true);
            }
        }
        int[][] places = {{3, 1}, {4, 0}, {1, 0}, {0, 0}, {255, 0}};
        for (int[] place : places) {
            int[][] other = {{place[0], 4, 6}, seats[1].clone(), seats[2].clone()};
            if (place[1] == 1) {
                Edge.due("seat " + place[0], Edge.put(Check.office(A), 999, other, pools), true);
            } else {
                refusedImage("seat " + place[0], Edge.picture(999, other, pools));
            }
        }
        int[][] drops = {{4, 5, 1}, {3, 7, 1}, {5, 6, 0}, {4, 7, 0}, {10, 0, 1}, {0, 10, 1}, {11, 0, 0}, {0, 11, 0}, {10, 1, 0}, {255, 255, 0}, {0, 255, 0}};
        for (int[] row : drops) {
            int[][] other = {{2, row[0], row[1]}, seats[1].clone(), seats[2].clone()};
            if (row[2] == 1) {
                Edge.due(row[0] + " and " + row[1], Edge.put(Check.office(A), 999, other, pools), true);
            } else {
                refusedImage(row[0] + " and " + row[1] + " in room 10", Edge.picture(999, other, pools));
            }
        }
        int[][] last = {seats[0], seats[1], {0, 8, 1}};
        refusedImage("the last CLERK is fuller", Edge.picture(999, last, pools));
        lengths(Edge.picture(999, seats, pools));
        Twins.refusedWithTape("without a registry", PromiseEdgeTest::empty, z -> on(z, new int[] {0, 0, 213}), 0, 5);
        Edge.due("with one", on(Check.office("seats 2;"), new int[] {0, 0, 213}), 1);
        Edge.sentence("true, all is as it tells, nothing is KEPT or can be undone;");
        SpongeClerks x = busy();
        Edge.due("on", Edge.put(x, 999, seats, pools), true);
        Edge.due("the tape goes", x.end(1), false);
        Edge.due("KEPT", x.has(7), 0);
        Edge.due("KEPT", x.kept(0, 0), -1);
        Edge.due("ACTS", x.has(9), 0);
        Edge.due("undo()", x.undo(), false);
        SpongeClerks y = Check.office(A);
        Edge.put(y, 999, seats, pools);
        y.seed(77);
        Check.see(y, 0, 0, 0, 8, 2, 1, 1, 0);
        Twins.alike("as with a new object", x, y, false);
        Edge.due("what comes then is KEPT", Edge.put(x, 998, seats, pools) && x.days(1) >= 0 && x.has(7) == 1 && x.kept(0, 0) == 998, true);
    }

    /** What an earlier registry had is not told by an image of this one. */
    private static void imagesInARow() {
        Edge.sentence("The tape (it goes) is AN IMAGE of this REGISTRY: true, all is as it tells,");
        String wide = "seats 9;matter m;matter n;matter o;matter p;clerk a at 7 room 99;clerk b at 8 room 99;told a of p 1;leaks 1;";
        String[] next = {"seats 2;", "seats 2;matter q;", "seats 3;clerk c at 1 room 5;", "seats 3;matter q;clerk c at 1 room 5;",
            "seats 4;matter q;matter r;clerk c at 1 room 5;clerk d at 2 room 5;leaks 0;"};
        for (String text : next) {
            SpongeClerks x = Check.office(wide);
            Edge.put(x, 9, new int[][] {{7, 1, 1, 1, 1}, {8, 0, 0, 0, 0}}, new int[][] {{1, 2, 3}, {4, 5, 6}, {7, 8, 9}, {10, 11, 12}});
            Edge.due("each DAY a drop of each MATTER goes there and back", x.days(3), 24);
            Edge.due("AHEAD as now", x.later(0, 3, 9), 1);
            Edge.due(text, Check.registry(x, text) > 0, true);
            int[] image = new int[x.image()];
            for (int k = 0; k < image.length; k++) {
                image[k] = x.octet(k);
            }
            Edge.due("on", on(x, image), 1);
            SpongeClerks y = Check.office(text);
            y.image();
            Edge.due("on the FLOOR", x.has(5), 0);
            Edge.due("nothing goes over", x.days(1), 0);
            y.days(1);
            x.registry();
            y.registry();
            Edge.due("on the FLOOR", x.has(5), 0);
            Edge.due("on again", on(x, image), 1);
            Edge.due("on again", on(y, image), 1);
            Twins.alike("as a new object: " + text, x, y, false);
        }
    }

    private static void refusedImage(String what, int[] image) {
        Twins.refusedWithTape(what, PromiseEdgeTest::busy, z -> on(z, image), 0, 5);
    }

    private static void lengths(int[] image) {
        for (int less = 1; less <= image.length; less++) {
            int[] cut = java.util.Arrays.copyOf(image, image.length - less);
            Edge.due(less + " bytes less", on(Check.office(A), cut), 0);
            if (cut.length > 0) {
                int[] sealed = Check.sealed(java.util.Arrays.copyOf(cut, cut.length - 1));
                Edge.due(less + " bytes less, closed", on(Check.office(A), sealed), 0);
            }
        }
        int[] bytes = java.util.Arrays.copyOf(image, image.length - 1);
        for (int more = 1; more <= 8; more++) {
            Edge.due(more + " bytes more", on(Check.office(A), java.util.Arrays.copyOf(image, image.length + more)), 0);
            Edge.due(more + " bytes more, closed", on(Check.office(A), Check.sealed(java.util.Arrays.copyOf(bytes, bytes.length + more))), 0);
        }
        for (int more = 1; more < 256; more++) {
            int[] other = image.clone();
            other[other.length - 1] = (other[other.length - 1] + more) % 256;
            Edge.due("another last byte", on(Check.office(A), other), 0);
        }
        Twins.refusedWithTape("too short", PromiseEdgeTest::busy, z -> on(z, bytes), 0, 5);
    }

    private static void promise37() {
        Edge.sentence("How many were refused: 0 feed(), end(); 1 registry(), see(); 2 tell(), squeeze(), rinse(), mop(), change(); 3 days(), chance(); 4 undo(); 5 seed(), on(). NONE for others.");
        Twins.Call[] calls = {z -> z.end(-1) ? 1 : 0, z -> z.registry(), z -> z.see(), z -> z.tell(0, 0, 0), z -> z.squeeze(-1), z -> z.rinse(-1),
            z -> z.mop(-1), z -> z.change(0, 0) ? 1 : 0, z -> z.days(0), z -> z.chance(0), z -> z.undo() ? 1 : 0, z -> z.seed(-1) ? 1 : 0,
            z -> z.on() ? 1 : 0};
        int[] counters = {0, 1, 1, 2, 2, 2, 2, 2, 3, 3, 4, 5, 5};
        for (int k = 0; k < calls.length; k++) {
            SpongeClerks x = Check.office(A);
            for (int times = 1; times <= 3; times++) {
                calls[k].on(x);
                for (int what = 0; what < 6; what++) {
                    Edge.due("call " + k + ", status(" + what + ")", x.status(what), what == counters[k] ? times : 0);
                }
            }
        }
        SpongeClerks x = fed(1600);
        x.feed(0, 0, 0, 0, 0);
        x.end(1601);
        Edge.due("feed(), end()", x.status(0), 2);
        int[] odd = {LEAST, -1, 6, 7, MOST};
        for (int what : odd) {
            Edge.due("status(" + what + ")", x.status(what), -1);
        }
        // What is answered by NONE alone is no refusal.
        x = Check.office(A);
        x.has(10);
        x.letter(2, 0, 0);
        x.leak(9, 0, 0);
        x.later(0, 0, 61);
        x.discreet(0, 31, 0);
        x.pressed(0, 0, 31);
        x.desks(9);
        x.sources(0, 100);
        x.tells(0, 100, 0);
        x.octet(99);
        x.status(9);
        Check.ask(x, "often");
        for (int what = 0; what < 6; what++) {
            Edge.due("nothing is refused, status(" + what + ")", x.status(what), 0);
        }
    }

    private static void calls512() {
        Edge.sentence("An object is used for at most 512 calls after it has been made;");
        SpongeClerks x = new SpongeClerks();
        for (int k = 1; k <= 511; k++) {
            Edge.due("call " + k, x.undo(), false);
        }
        Edge.due("call 512", x.status(4), 511);
        // Three calls for the registry, then 507 ACTS and has() at the last but one.
        x = new SpongeClerks();
        x.feed(0x73656174, 0x7320323b, 0x636c6572, 0x6b206120, 0x61742030);
        x.feed(0x20726f6f, 0x6d20393b, 0x20202020, 0x20202020, 0x20202020);
        Edge.due("call 3", x.registry(), 2);
        for (int k = 4; k <= 510; k++) {
            Edge.due("call " + k, x.change(0, 1), true);
        }
        Edge.due("call 511", x.has(9), 20);
        Edge.due("call 512", x.seat(1), 0);
        // A tape filled, cut and filled again.
        x = new SpongeClerks();
        int size = 0;
        for (int k = 1; k <= 511; k++) {
            boolean cut = size == 1600;
            Edge.due("call " + k, cut ? x.end(0) ? 0 : -1 : x.feed(k, k, k, k, k), cut ? 0 : size + 20);
            size = cut ? 0 : size + 20;
        }
        Edge.due("call 512", x.end(size), true);
    }
}
