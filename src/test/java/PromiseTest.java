/** The promises 1 to 37, one method each, with answers worked out by hand from the document. */
public final class PromiseTest {
    /** Abe sits next to bo, cy alone; leaks is drops/4. */
    private static final String A = "seats 4;matter m;matter w;clerk a at 0 room 10;clerk b at 1 room 6;"
            + "clerk c at 3 room 8;told a of m 8;told b of w 2;told c of m 3;hand 100;";
    private static final String ROW = "seats 3;matter m;clerk a at 0 room 9;clerk b at 1 room 9;clerk c at 2 room 9;"
            + "told a of m 8;told b of m 4;";
    private static final long NOTHING = -1000000000000000L;

    private PromiseTest() {
    }

    public static void main(String[] args) {
        promises1to8();
        promises9to13();
        promises14to16();
        promise17();
        promise18();
        promise19();
        promise20();
        promise21();
        promise22();
        promise23();
        promise24();
        promises25and26();
        promise27();
        promise28();
        promise29();
        promise30();
        promise31();
        promise32();
        promise33();
        promises34and35();
        promise36();
        promise37();
        Check.finish("PromiseTest");
    }

    private static void due(String what, long got, long want) {
        Check.due(what, got, want);
    }

    private static void due(String what, boolean got, boolean want) {
        Check.due(what, got, want);
    }

    private static void promises1to8() {
        SpongeClerks x = new SpongeClerks();
        for (int k = 0; k < 10; k++) {
            due("1: has(" + k + ") of a new object", x.has(k), 0);
        }
        for (int k = 0; k < 6; k++) {
            due("1: status(" + k + ") of a new object", x.status(k), 0);
        }
        due("1: fault(0)", x.fault(0), 0);
        due("1: fault(1)", x.fault(1), -1);
        due("1: seat(0)", x.seat(0), -1);

        promise2();
        promise3();
        promise4();
        promise5();
        promise6();
        promise7();
        promise8();
    }

    private static void promise2() {
        SpongeClerks x = new SpongeClerks();
        for (int k = 1; k <= 80; k++) {
            due("2: feed", x.feed(0, 0, 0, 0, 0), 20 * k);
        }
        due("2: feed beyond 1600", x.feed(0, 0, 0, 0, 0), -1);
        due("2: it is refused", x.status(0), 1);
        due("2: the tape stays", x.end(1600), true);
        x.end(1581);
        due("2: 1601 would be too many", x.feed(0, 0, 0, 0, 0), -1);
        x.end(1580);
        due("2: 1600 are not", x.feed(0, 0, 0, 0, 0), 1600);
        // The bytes come in their order, the highest of each number first.
        x.end(0);
        x.feed(0x73656174, 0x7320323b, 0x20202020, 0x20202020, 0x2020200a);
        due("2: seats 2;", x.registry(), 1);
        x.feed(0xff000000, 0, 0, 0, 0);
        due("2: a byte above 127", x.registry(), -1);
        due("2: is no sign", x.fault(1), 0);
    }

    private static void promise3() {
        SpongeClerks x = new SpongeClerks();
        due("3: end(0) of nothing", x.end(0), true);
        due("3: end(1) of nothing", x.end(1), false);
        due("3: end(-1)", x.end(-1), false);
        x.feed(1, 2, 3, 4, 5);
        due("3: end(21)", x.end(21), false);
        due("3: end(20)", x.end(20), true);
        due("3: end(7)", x.end(7), true);
        due("3: end(8) now", x.end(8), false);
        due("3: the rest is gone", x.feed(1, 2, 3, 4, 5), 27);
        due("3: four were refused", x.status(0), 4);
    }

    private static void promise4() {
        SpongeClerks x = new SpongeClerks();
        due("4: registry", Check.registry(x, A), 10);
        due("4: the tape goes", x.end(1), false);
        x.days(3);
        x.tell(0, 0, 50);
        x.change(0, 2);
        Check.see(x, 0, 0, 0, 9);
        x.image();
        due("4: with a FAULT", Check.registry(x, "seats 3;matter"), -1);
        due("4: the tape goes, too", x.end(1), false);
        due("4: all stays: DAY", x.has(3), 3);
        due("4: all stays: seats", x.has(0), 4);
        due("4: all stays: KEPT", x.has(7), 3);
        due("4: all stays: SEEN", x.has(8), 1);
        due("4: all stays: ACTS", x.has(9), 3);
        due("4: all stays: who sits there", x.seat(2), 0);
        due("4: a new one", Check.registry(x, A), 10);
        due("4: as at first: DAY", x.has(3), 0);
        due("4: as at first: drops", x.drops(0, 0), 8);
        due("4: as at first: FLOOR", x.has(5), 0);
        due("4: as at first: seats", x.seat(0), 0);
        due("4: nothing is KEPT", x.has(7), 0);
        due("4: nothing is SEEN", x.has(8), 0);
        due("4: no ACT", x.has(9), 0);
        due("4: nothing to undo", x.undo(), false);
        due("4: the latest image stays", x.octet(0), 0);
        due("4: refusals stay", x.status(1), 1);
        // The seed stays: with another one the first DRAW of 100 is 76, not 18.
        x.seed(7);
        Check.registry(x, A + "hand 76;");
        due("4: the seed stays", x.chance(1), 0);
        due("4: blanks alone", Check.registry(x, " \n "), -1);
        due("4: at its length", x.fault(1), 3);
        due("4: seats alone", Check.registry(x, "seats 9;"), 1);
        due("4: has no clerks", x.has(2), 0);
        due("4: nor matters", x.has(1), 0);
        Check.registry(x, A + "leaks 0;shakes not all;");
        Check.registry(x, "seats 3;matter m;clerk a at 1 room 9;clerk b at 2 room 9;told a of m 8;hand 100;");
        due("4: nobody sits there any more", x.seat(0), -1);
        due("4: leaks is as without again", x.leak(0, 1, 0), 2);
        due("4: shakes is as without again", x.chance(1), 1);
        due("4: drops told more than once", Check.registry(x, "seats 2;matter m;clerk a at 1 room 9;"
                + "told a of m 4;told a of m 0;told a of m 5;"), 6);
        due("4: come together", x.drops(0, 0), 9);
    }

    private static void promise5() {
        SpongeClerks x = new SpongeClerks();
        Check.registry(x, "seats 1;");
        due("5: the FAULT", x.fault(0), 2);
        due("5: its place", x.fault(1), 6);
        due("5: another what", x.fault(2), -1);
        due("5: another what", x.fault(-1), -1);
        Check.ask(x, "often all");
        due("5: ask() without a registry does nothing else", x.fault(0), 2);
        due("5: nor to the place", x.fault(1), 6);
        Check.registry(x, A);
        due("5: none", x.fault(0), 0);
        due("5: no place", x.fault(1), -1);
        Check.ask(x, "often");
        due("5: of ask()", x.fault(0), 1);
        due("5: of ask()", x.fault(1), 5);
        Check.ask(x, "often all");
        due("5: none of ask()", x.fault(0), 0);
        due("5: none of ask()", x.fault(1), -1);
    }

    private static void promise6() {
        SpongeClerks x = Check.office(A);
        int[] first = {4, 2, 3, 0, 13, 0, 0, 0, 0, 0};
        for (int k = 0; k < first.length; k++) {
            due("6: has(" + k + ")", x.has(k), first[k]);
        }
        x.days(1);
        x.tell(0, 0, 9);
        x.tell(1, 1, 2);
        Check.see(x, 0, 0, 0, 1, 1, 0, 0, 1);
        int[] then = {4, 2, 3, 1, 19, 5, 2, 1, 2, 3};
        for (int k = 0; k < then.length; k++) {
            due("6: has(" + k + ") then", x.has(k), then[k]);
        }
        due("6: has(10)", x.has(10), -1);
        due("6: has(-1)", x.has(-1), -1);
    }

    private static void promise7() {
        SpongeClerks x = Check.office("seats 2;matter az;clerk bcdefg at 0 room 1;clerk first at 1 room 1;");
        due("7: a", x.letter(0, 0, 0), 1);
        due("7: z", x.letter(0, 0, 1), 26);
        due("7: behind it", x.letter(0, 0, 2), 0);
        due("7: behind it", x.letter(0, 0, 5), 0);
        for (int k = 0; k < 6; k++) {
            due("7: bcdefg", x.letter(1, 0, k), 2 + k);
        }
        due("7: t of first", x.letter(1, 1, 4), 20);
        due("7: behind first", x.letter(1, 1, 5), 0);
        due("7: k 6", x.letter(1, 0, 6), -1);
        due("7: k -1", x.letter(1, 0, -1), -1);
        due("7: no such MATTER", x.letter(0, 1, 0), -1);
        due("7: no such CLERK", x.letter(1, 2, 0), -1);
        due("7: no such CLERK", x.letter(1, -1, 0), -1);
        due("7: no such kind", x.letter(2, 0, 0), -1);
        due("7: no such kind", x.letter(-1, 0, 0), -1);
    }

    private static void promise8() {
        SpongeClerks x = Check.office(A);
        int[] who = {0, 1, -1, 2, -1};
        for (int k = 0; k < who.length; k++) {
            due("8: seat(" + k + ")", x.seat(k), who[k]);
        }
        due("8: seat(-1)", x.seat(-1), -1);
        due("8: a seat far off", x.seat(Integer.MAX_VALUE), -1);
    }

    private static void promises9to13() {
        SpongeClerks x = Check.office(A + "told c of w 3;");
        int[][] clerks = {{0, 10, 8, 0, 2}, {1, 6, 2, 1, 2}, {3, 8, 6, 0, 2}};
        for (int c = 0; c < 3; c++) {
            for (int k = 0; k < 5; k++) {
                due("9: clerk(" + c + ", " + k + ")", x.clerk(c, k), clerks[c][k]);
            }
        }
        due("9: what 5", x.clerk(0, 5), -1);
        due("9: what -1", x.clerk(0, -1), -1);
        due("9: none such", x.clerk(3, 0), -1);
        due("9: none such", x.clerk(-1, 0), -1);
        x.rinse(1);
        due("9: has nothing most", x.clerk(1, 3), -1);
        x.tell(1, 1, 1);
        due("9: one drop is most", x.clerk(1, 3), 1);
        SpongeClerks y = Check.office("seats 3;clerk a at 0 room 3;clerk b at 1 room 2;clerk c at 2 room 1;");
        due("9: POWER, half is not more", y.clerk(0, 4), 3);
        due("9: POWER", y.clerk(1, 4), 1);
        due("9: POWER", y.clerk(2, 4), 1);

        x = Check.office(A);
        due("10: drops", x.drops(0, 0), 8);
        due("10: none", x.drops(0, 1), 0);
        due("10: drops", x.drops(1, 1), 2);
        due("10: no such CLERK", x.drops(3, 0), -1);
        due("10: no such MATTER", x.drops(0, 2), -1);
        due("10: below 0", x.drops(0, -1), -1);
        due("10: below 0", x.drops(-1, 1), -1);

        x.tell(0, 0, 5);
        x.squeeze(2);
        x.rinse(1);
        int[] m = {10, 3, 3, 0, 1};
        int[] w = {0, 0, 0, 2, 0};
        for (int k = 0; k < 5; k++) {
            due("11: matter(0, " + k + ")", x.matter(0, k), m[k]);
            due("11: matter(1, " + k + ")", x.matter(1, k), w[k]);
        }
        due("11: what 5", x.matter(0, 5), -1);
        due("11: what -1", x.matter(0, -1), -1);
        due("11: none such", x.matter(2, 0), -1);
        due("11: none such", x.matter(-1, 0), -1);
        promise12();
        promise13();
    }

    private static void promise12() {
        SpongeClerks x = Check.office(A + "leaks seat*5+drops-full/8+matter*space;");
        // a: 0 + 8 - 1 + 0 = 7, but bo can hold 4 more; bo: w 5 + 2 - 0 + 1*2, but he has 2.
        due("12: no more than the other can hold", x.leak(0, 1, 0), 4);
        due("12: he has none of it", x.leak(0, 1, 1), 0);
        due("12: no more than he has", x.leak(1, 0, 1), 2);
        due("12: none sits there", x.leak(0, 0, 0), -1);
        due("12: none sits there", x.leak(1, 1, 0), -1);
        due("12: none sits there", x.leak(2, 0, 0), -1);
        due("12: none sits there", x.leak(2, 1, 0), -1);
        due("12: side 2", x.leak(0, 2, 0), -1);
        due("12: side -1", x.leak(0, -1, 0), -1);
        due("12: no such CLERK", x.leak(3, 0, 0), -1);
        due("12: no such MATTER", x.leak(0, 1, 2), -1);
        due("12: nothing went", x.drops(0, 0), 8);
        due("12: no fewer than 0", Check.office(A + "leaks 1-drops;").leak(0, 1, 0), 0);
        due("12: / rounds down", Check.office(A + "leaks 3+(0-drops)/7;").leak(0, 1, 0), 1);
        due("12: / by 0", Check.office(A + "leaks 1+drops/(seat-0);").leak(0, 1, 0), 1);
        due("12: the bound", Check.office(A + "leaks 9999*9999-999*1001;").leak(0, 1, 0), 1);
        due("12: the bound below", Check.office(A + "leaks 0-9999*9999-9999+999*999+2001;").leak(0, 1, 0), 2);
        due("12: from the left on", Check.office(A + "leaks 9-5-1;").leak(0, 1, 0), 3);
        due("12: from the left on", Check.office(A + "leaks 9/2/2*1;").leak(0, 1, 0), 2);
        due("12: min, max", Check.office(A + "leaks min(drops,max(2,matter+1));").leak(0, 1, 0), 2);
        due("12: room", Check.office(A + "leaks room-9;").leak(0, 1, 0), 1);
        due("12: space is that of the other", Check.office(A + "leaks space-3;").leak(0, 1, 0), 1);
        due("12: day", Check.office(A + "leaks day+1;").leak(0, 1, 0), 1);
        due("12: without", Check.office(A).leak(0, 1, 0), 2);
    }

    private static void promise13() {
        SpongeClerks x = Check.office(A);
        due("13: nothing", x.kept(0, 0), -1);
        x.days(3);
        int[][] rows = {{0, 2, 0}, {1, 1, 0}, {2, 2, 0}};
        for (int k = 0; k < 3; k++) {
            for (int what = 0; what < 3; what++) {
                due("13: kept(" + k + ", " + what + ")", x.kept(k, what), rows[k][what]);
            }
        }
        due("13: k 3", x.kept(3, 0), -1);
        due("13: k -1", x.kept(-1, 0), -1);
        due("13: what 3", x.kept(0, 3), -1);
        due("13: what -1", x.kept(0, -1), -1);
        x.tell(1, 1, 50);
        x.days(1);
        due("13: bo is FULL", x.kept(3, 2), 1);
        x.rinse(0);
        x.tell(2, 0, 50);
        x.tell(1, 0, 50);
        x.days(1);
        due("13: cy is FULL, too", x.kept(4, 2), 2);
        x.days(37);
        due("13: the last 40", x.has(7), 40);
        due("13: the oldest of them", x.kept(0, 0), 2);
        due("13: the latest of them", x.kept(39, 0), 41);
        due("13: no more", x.kept(40, 0), -1);
    }

    private static void promises14to16() {
        SpongeClerks x = Check.office(A);
        int[] a = {8, 6, 5, 5, 5};
        int[] b = {0, 2, 3, 3, 3};
        for (int n = 0; n < 5; n++) {
            due("14: later(0, 0, " + n + ")", x.later(0, 0, n), a[n]);
            due("14: later(1, 0, " + n + ")", x.later(1, 0, n), b[n]);
        }
        due("14: 60 DAYS", x.later(2, 0, 60), 3);
        due("14: 61 DAYS", x.later(2, 0, 61), -1);
        due("14: -1 DAYS", x.later(2, 0, -1), -1);
        due("14: no such CLERK", x.later(3, 0, 1), -1);
        due("14: no such MATTER", x.later(0, 2, 1), -1);
        due("14: nothing is done", x.has(3), 0);
        due("15: now", x.knows(0, 0), 5);
        due("15: then", x.knows(0, 1), 7);
        due("15: the other one", x.knows(1, 60), 2);
        due("15: 61 DAYS", x.knows(0, 61), -1);
        due("15: -1 DAYS", x.knows(0, -1), -1);
        due("15: none such", x.knows(2, 0), -1);
        due("15: none such", x.knows(-1, 0), -1);
        due("16: now", x.hears(0, 0), 0);
        due("16: then", x.hears(1, 0), 1);
        due("16: never", x.hears(2, 1), -1);
        due("16: none such", x.hears(3, 0), -1);
        due("16: none such", x.hears(0, 2), -1);
        // Nothing leaks up to DAY 59: the 60th DAY AHEAD is the last that is looked at.
        String late = "seats 2;matter m;clerk a at 0 room 9;clerk b at 1 room 9;told a of m 3;leaks (1-seat)*(day-";
        due("16: behind 60", Check.office(late + "58);").hears(1, 0), 60);
        due("16: not behind 61", Check.office(late + "59);").hears(1, 0), -1);
        x = Check.office(late + "997);");
        due("14: on to DAY 990", Check.on(x, Check.sealed(3, 222, 0, 3, 1, 0, 0, 0, 0, 0, 0, 0)), true);
        due("14: not beyond DAY 999", x.later(0, 0, 10), -1);
        due("14: up to DAY 999", x.later(0, 0, 9), 2);
        due("15: not beyond DAY 999", x.knows(0, 10), -1);
        due("15: up to DAY 999", x.knows(0, 9), 3);
        due("16: up to DAY 999", x.hears(1, 0), 9);
        x = Check.office(late + "998);");
        Check.on(x, Check.sealed(3, 222, 0, 3, 1, 0, 0, 0, 0, 0, 0, 0));
        due("16: not beyond DAY 999", x.hears(1, 0), -1);
    }

    private static void promise17() {
        String text = "seats 4;matter m;clerk a at 0 room 9;clerk b at 1 room 9;told a of m 8;";
        SpongeClerks x = Check.office(text);
        due("17: the less seat", x.discreet(0, 1, 0), 0);
        due("17: the other one", x.discreet(0, 1, 1), 3);
        due("17: how many", x.discreet(0, 1, 2), 1);
        due("17: what 3", x.discreet(0, 1, 3), -1);
        due("17: what -1", x.discreet(0, 1, -1), -1);
        due("17: n 0", x.discreet(0, 0, 0), -1);
        due("17: n 30", x.discreet(0, 30, 1), 3);
        due("17: n 31", x.discreet(0, 31, 0), -1);
        due("17: none such", x.discreet(1, 1, 0), -1);
        due("17: none such", x.discreet(-1, 1, 0), -1);
        due("17: nothing is done", x.seat(0), 0);
        x = Check.office("seats 3;" + text.substring(8));
        due("17: three seats", x.discreet(0, 1, 0), 1);
        due("17: three seats", x.discreet(0, 1, 1), 2);
        x = Check.office("seats 3;matter m;clerk a at 1 room 9;clerk b at 2 room 9;told a of m 8;");
        due("17: the first pair", x.discreet(0, 1, 0), 0);
        due("17: the first pair", x.discreet(0, 1, 1), 1);
        x = Check.office(text + "leaks (1-seat)*day;");
        due("17: nothing leaks on DAY 0", x.discreet(0, 1, 0), -1);
        due("17: but on DAY 1, from seat 0 alone", x.discreet(0, 2, 1), 1);
        x = Check.office("seats 2;" + text.substring(8));
        due("17: none is better", x.discreet(0, 1, 0), -1);
        due("17: none is better", x.discreet(0, 1, 2), -1);
        x = Check.office(text);
        Check.on(x, Check.sealed(3, 222, 0, 8, 1, 0, 0, 0, 0, 0, 0, 0));
        due("17: up to DAY 999", x.discreet(0, 9, 2), 1);
        due("17: not beyond DAY 999", x.discreet(0, 10, 2), -1);
    }

    private static void promise18() {
        SpongeClerks x = Check.office(ROW);
        due("18: cy hears of it", x.hears(2, 0), 1);
        due("18: one of two that would do", x.pressed(2, 0, 1), 1);
        due("18: for long", x.pressed(2, 0, 30), 1);
        due("18: all are not enough", x.pressed(0, 0, 1), -1);
        due("18: n 0", x.pressed(2, 0, 0), -1);
        due("18: n 31", x.pressed(2, 0, 31), -1);
        due("18: no such CLERK", x.pressed(3, 0, 1), -1);
        due("18: no such MATTER", x.pressed(2, 1, 1), -1);
        due("18: nothing is done", x.drops(0, 0), 8);
        x.squeeze(0);
        due("18: none need be", x.pressed(2, 0, 30), 0);
        x = Check.office(ROW + "leaks drops/2;");
        due("18: two", x.pressed(2, 0, 9), 3);
        x = Check.office("seats 2;matter m;clerk a at 0 room 9;clerk b at 1 room 9;told a of m 3;");
        due("18: not the told one himself", x.pressed(0, 0, 1), -1);
        x = Check.office(ROW + "leaks day*drops/4;");
        due("18: nothing leaks on DAY 0", x.pressed(2, 0, 1), 0);
        due("18: but on DAY 1", x.pressed(2, 0, 2), 1);
        // He has a drop now, but it goes on, and does not come back.
        x = Check.office("seats 2;matter m;clerk a at 0 room 9;clerk b at 1 room 9;told a of m 1;leaks 1-seat;");
        due("18: behind the DAYS, not now", x.pressed(0, 0, 9), 0);
        Check.on(x, Check.sealed(3, 222, 0, 1, 1, 0, 0, 0, 0, 0, 0, 0));
        due("18: up to DAY 999", x.pressed(0, 0, 9), 0);
        due("18: not beyond DAY 999", x.pressed(0, 0, 10), -1);
    }

    private static void promise19() {
        SpongeClerks x = new SpongeClerks();
        due("19: without a registry", x.mops(), -1);
        x = Check.office(A);
        due("19: nothing on the FLOOR", x.mops(), 0);
        due("19: four are spilt", x.tell(0, 0, 6), 4);
        due("19: bo and cy can, bo is less", x.mops(), 2);
        x.tell(0, 1, 1);
        due("19: of all MATTERS: cy", x.mops(), 4);
        x.tell(0, 0, 4);
        due("19: nine: both", x.mops(), 6);
        x.tell(0, 0, 1);
        due("19: ten: all are not enough", x.mops(), -1);
        x.rinse(0);
        due("19: abe can hold ten", x.mops(), 1);
        due("19: no clerks, nothing spilt", Check.office("seats 2;").mops(), 0);
    }

    private static void promise20() {
        SpongeClerks x = Check.office(A);
        due("20: no such row: eleven of m", x.desks(0), -1);
        due("20: nor for w", x.desks(1), -1);
        x = Check.office("seats 2;matter m;matter w;clerk a at 0 room 10;clerk b at 1 room 5;told b of m 4;told a of w 8;");
        due("20: bo, as abe is needed", x.desks(0), 1);
        due("20: abe", x.desks(1), 0);
        due("20: none such", x.desks(2), -1);
        due("20: none such", x.desks(-1), -1);
        x.rinse(0);
        due("20: the first row", x.desks(0), 0);
        due("20: the first row", x.desks(1), 1);
        x.tell(0, 0, 6);
        due("20: full is not above his room", x.desks(0), 0);
        x.squeeze(1);
        x.tell(1, 1, 5);
        due("20: as many as his room", x.desks(1), 1);
        x.tell(0, 1, 1);
        due("20: one more, and there is no row", x.desks(1), -1);
        due("20: fewer CLERKS", Check.office("seats 2;matter m;matter w;clerk a at 0 room 9;").desks(0), -1);
    }

    private static void promise21() {
        SpongeClerks x = new SpongeClerks();
        due("21: without a registry", Check.see(x, 0, 0, 0, 0), -1);
        x = Check.office(A);
        due("21: nothing", Check.see(x), -1);
        due("21: a row", Check.see(x, 30, 2, 1, 99), 1);
        due("21: three bytes", Check.see(x, 0, 0, 0), -1);
        due("21: five bytes", Check.see(x, 0, 0, 0, 0, 0), -1);
        due("21: the tape goes", x.end(1), false);
        due("21: DAY 31", Check.see(x, 31, 0, 0, 0), -1);
        due("21: no such CLERK", Check.see(x, 0, 3, 0, 0), -1);
        due("21: no such MATTER", Check.see(x, 0, 0, 2, 0), -1);
        due("21: 100 drops", Check.see(x, 0, 0, 0, 100), -1);
        due("21: a wrong row behind", Check.see(x, 0, 0, 0, 9, 0, 0, 0, 200), -1);
        due("21: all stays", x.has(8), 1);
        due("21: 16 rows", Check.see(x, new int[64]), 16);
        due("21: the tape goes", x.end(1), false);
        due("21: 17 rows", Check.see(x, new int[68]), -1);
        due("21: 16 stay", x.has(8), 16);
        due("21: the next are instead", Check.see(x, 1, 0, 0, 9), 1);
        due("21: refused", x.status(1), 9);
    }

    private static void promise22() {
        SpongeClerks x = Check.office(A);
        due("22: nothing is SEEN", x.sources(0, 5), 7);
        due("22: 100", x.sources(0, 100), -1);
        due("22: -1", x.sources(0, -1), -1);
        due("22: none such", x.sources(2, 5), -1);
        due("22: none such", x.sources(-1, 5), -1);
        Check.see(x, 0, 0, 0, 8);
        due("22: not abe", x.sources(0, 1), 6);
        due("22: 0: nothing is told", x.sources(0, 0), 7);
        due("22: of another MATTER", x.sources(1, 1), 7);
        // Told 5, abe holds 2 of them: 10; bo 4 of them: 4 of m, and full.
        Check.see(x, 0, 0, 0, 10);
        due("22: as by the ACT", x.sources(0, 5), 1);
        // Abe with 10 gives 2 on the first DAY, bo gives 0 back; bo with 4 and w 2 is full, gives 1 back.
        Check.see(x, 1, 0, 0, 9);
        due("22: behind a DAY", x.sources(0, 4), 2);
        Check.see(x, 1, 0, 0, 9, 1, 1, 0, 3);
        due("22: all is so", x.sources(0, 4), 2);
        Check.see(x, 1, 0, 0, 9, 1, 1, 0, 4);
        due("22: not all is so", x.sources(0, 4), 0);
        Check.see(x, 0, 0, 0, 8, 1, 0, 0, 6);
        due("22: now and a DAY later", x.sources(0, 4), 4);
        Check.see(x, 1, 0, 0, 6, 0, 0, 0, 8);
        due("22: whichever row is first", x.sources(0, 4), 4);
        due("22: nothing is done", x.drops(0, 0), 8);
        Check.see(x, 10, 0, 1, 0);
        due("22: w never comes to abe", x.sources(0, 1), 7);
        int[] image = Check.sealed(3, 222, 0, 8, 0, 1, 0, 2, 3, 3, 0, 39, 15, 0, 0, 0, 0, 0, 0, 0, 0, 0, 0);
        due("22: on to DAY 990", Check.on(x, image), true);
        due("22: on() lets SEEN stay", x.has(8), 1);
        due("22: DAYS beyond 999 are by none", x.sources(0, 1), 0);
        Check.see(x, 9, 0, 1, 0);
        due("22: up to DAY 999", x.sources(0, 1), 7);
        due("22: the FLOOR can't take what cy spills", x.sources(0, 6), 0);
        due("22: nor what abe and bo spill", x.sources(0, 5), 4);
    }

    private static void promise23() {
        SpongeClerks x = Check.office(A);
        // Told 4 each, now: abe has 10, 8, 8; bo 0, 4, 0; cy 3, 3, 7: two stay alike.
        // A DAY later abe has 8, 9, 6: one is left.
        due("23: the DAY", x.tells(0, 4, 0), 1);
        due("23: the CLERK", x.tells(0, 4, 1), 0);
        due("23: how many are left", x.tells(0, 4, 2), 1);
        due("23: what 3", x.tells(0, 4, 3), -1);
        due("23: what -1", x.tells(0, 4, -1), -1);
        due("23: 100", x.tells(0, 100, 0), -1);
        due("23: -1", x.tells(0, -1, 0), -1);
        due("23: none such", x.tells(2, 4, 0), -1);
        due("23: 0: all are alike, DAY", x.tells(0, 0, 0), 0);
        due("23: 0: all are alike, CLERK", x.tells(0, 0, 1), 0);
        due("23: 0: all are alike", x.tells(0, 0, 2), 3);
        due("23: nothing is done", x.drops(0, 0), 8);
        Check.see(x, 0, 0, 0, 8);
        // Bo or cy: abe has 8 by both, bo tells them apart.
        due("23: now", x.tells(0, 4, 0), 0);
        due("23: bo", x.tells(0, 4, 1), 1);
        due("23: one", x.tells(0, 4, 2), 1);
        Check.see(x, 0, 0, 0, 10);
        due("23: abe alone", x.tells(0, 4, 2), 1);
        due("23: now", x.tells(0, 4, 0), 0);
        Check.see(x, 0, 0, 0, 99);
        due("23: without any", x.tells(0, 4, 0), -1);
        due("23: without any", x.tells(0, 4, 2), -1);
        x = Check.office(A);
        Check.on(x, Check.sealed(3, 231, 0, 8, 0, 1, 0, 2, 3, 3, 0, 0, 0, 0, 0, 0, 0, 0, 0, 0, 0, 0, 0));
        due("23: on DAY 999 there is only now", x.tells(0, 4, 0), 0);
        due("23: on DAY 999", x.tells(0, 4, 2), 2);
    }

    private static void promise24() {
        SpongeClerks x = Check.office(A);
        due("24: he holds them", x.tell(0, 1, 2), 0);
        due("24: he has them", x.drops(0, 1), 2);
        due("24: he is full", x.tell(0, 0, 1), 1);
        due("24: on the FLOOR", x.matter(0, 1), 1);
        due("24: some", x.tell(1, 0, 99), 95);
        due("24: FULL", x.clerk(1, 2), 6);
        due("24: 0 drops", x.tell(0, 0, 0), -1);
        due("24: 100 drops", x.tell(0, 0, 100), -1);
        due("24: no such CLERK", x.tell(3, 0, 1), -1);
        due("24: no such MATTER", x.tell(0, 2, 1), -1);
        due("24: refused", x.status(2), 4);
        due("24: ACTS", x.has(9), 3);
        Check.on(x, Check.sealed(0, 0, 0, 8, 2, 1, 0, 2, 3, 3, 0, 39, 14, 0, 0, 0, 0, 0, 0, 0, 0, 0, 0));
        due("24: 9998 on the FLOOR", x.matter(0, 1), 9998);
        due("24: two more can't be", x.tell(0, 0, 2), -1);
        due("24: of another MATTER they can", x.tell(0, 1, 2), 2);
        due("24: one more can be", x.tell(0, 0, 1), 1);
        due("24: bo can hold 4", x.tell(1, 0, 4), 0);
        due("24: not one more", x.tell(1, 0, 1), -1);
    }

    private static void promises25and26() {
        SpongeClerks x = Check.office(A + "told c of w 4;");
        due("25: squeeze", x.squeeze(2), 7);
        due("25: READ", x.matter(0, 2), 3);
        due("25: READ", x.matter(1, 2), 4);
        due("25: dry", x.clerk(2, 2), 0);
        due("25: he has none", x.squeeze(2), -1);
        due("25: none such", x.squeeze(3), -1);
        due("25: none such", x.squeeze(-1), -1);
        due("25: refused", x.status(2), 3);
        due("26: rinse", x.rinse(0), 8);
        due("26: RINSED", x.matter(0, 3), 8);
        due("26: not READ", x.matter(0, 2), 3);
        due("26: he has none", x.rinse(0), -1);
        due("26: none such", x.rinse(3), -1);
        due("26: none such", x.rinse(-1), -1);
        due("26: refused", x.status(2), 6);
        due("26: ACTS", x.has(9), 2);
        Check.on(x, Check.sealed(0, 0, 0, 8, 1, 1, 4, 2, 3, 3, 0, 0, 0, 39, 10, 39, 14, 0, 0, 0, 0, 0, 0));
        due("25: more than are counted", x.squeeze(0), 9);
        due("25: 9999 at most", x.matter(0, 2), 9999);
        due("25: the other one", x.matter(1, 2), 1);
        due("26: more than are counted", x.rinse(1), 6);
        due("26: 9999 at most", x.matter(0, 3), 9999);
        due("26: the other one", x.matter(1, 3), 2);
    }

    private static void promise27() {
        SpongeClerks x = Check.office(A);
        due("27: nothing there", x.mop(2), -1);
        x.tell(0, 1, 5);
        x.tell(0, 0, 4);
        due("27: he is full", x.mop(0), -1);
        due("27: none such", x.mop(3), -1);
        due("27: none such", x.mop(-1), -1);
        due("27: refused", x.status(2), 4);
        due("27: cy holds 5 more", x.mop(2), 5);
        due("27: MATTER by MATTER", x.drops(2, 0), 7);
        due("27: MATTER by MATTER", x.drops(2, 1), 1);
        due("27: left", x.matter(0, 1), 0);
        due("27: left", x.matter(1, 1), 2);
        due("27: ACTS", x.has(9), 3);
        due("27: bo takes the rest", x.mop(1), 2);
        due("27: nothing left", x.mop(1), -1);
    }

    private static void promise28() {
        SpongeClerks x = Check.office(A);
        due("28: two", x.change(0, 1), true);
        due("28: bo", x.seat(0), 1);
        due("28: abe", x.seat(1), 0);
        due("28: his seat", x.clerk(0, 0), 1);
        due("28: one may be empty", x.change(3, 2), true);
        due("28: cy", x.seat(2), 2);
        due("28: empty now", x.seat(3), -1);
        due("28: the other way", x.change(3, 2), true);
        due("28: cy is back", x.clerk(2, 0), 3);
        due("28: they are one", x.change(1, 1), false);
        due("28: none such", x.change(3, 4), false);
        due("28: none such", x.change(-1, 3), false);
        due("28: refused", x.status(2), 3);
        SpongeClerks y = Check.office("seats 3;clerk a at 0 room 1;");
        due("28: both are empty", y.change(1, 2), false);
        due("28: refused", y.status(2), 1);
        due("28: ACTS", x.has(9), 3);
    }

    private static void promise29() {
        SpongeClerks x = new SpongeClerks();
        due("29: without a registry", x.days(1), -1);
        x = Check.office(A);
        due("29: n 0", x.days(0), -1);
        due("29: n 101", x.days(101), -1);
        due("29: n -1", x.days(-1), -1);
        due("29: a DAY", x.days(1), 2);
        due("29: DAY", x.has(3), 1);
        due("29: two more", x.days(2), 3);
        due("29: one ACT each", x.has(9), 2);
        due("29: abe", x.drops(0, 0), 5);
        due("29: bo", x.drops(1, 0), 3);
        due("29: 100", x.days(100) > 0, true);
        for (int k = 0; k < 8; k++) {
            x.days(100);
        }
        due("29: DAY 903", x.has(3), 903);
        due("29: 97 can't be", x.days(97), -1);
        due("29: 96 can", x.days(96) > 0, true);
        due("29: DAY 999", x.has(3), 999);
        due("29: no more", x.days(1), -1);
        due("29: nor by the seed", x.chance(1), -1);
        due("29: refused", x.status(3), 6);
        due("29: without clerks", Check.office("seats 2;").days(3), 0);
        // By seats, not by numbers; first to the seat less; by what is so then.
        x = Check.office("seats 3;matter m;clerk a at 2 room 9;clerk b at 1 room 9;clerk c at 0 room 9;"
                + "told b of m 8;leaks drops/2;");
        due("29: by seats", x.days(1), 4 + 2 + 1);
        due("29: cy, ahead of him", x.drops(2, 0), 4);
        due("29: bo", x.drops(1, 0), 3);
        due("29: abe", x.drops(0, 0), 1);
        x = Check.office("seats 2;matter m;matter w;clerk a at 0 room 9;clerk b at 1 room 3;told a of m 4;"
                + "told a of w 4;leaks full*(1-seat);");
        due("29: MATTER by MATTER", x.days(1), 3);
        due("29: the first one went", x.drops(1, 0), 3);
        due("29: the other had no space", x.drops(1, 1), 0);
        x = Check.office("seats 2;matter m;clerk a at 0 room 9;clerk b at 1 room 9;told a of m 9;leaks (1-seat)*day;");
        due("29: the DAY is that ahead of it", x.days(3), 0 + 1 + 2);
        settledDays();
    }

    /** From DAY 2 on abe gives bo one drop each DAY and gets it back, until an ACT comes between. */
    private static void settledDays() {
        SpongeClerks x = Check.office(A);
        due("29: DAYS that are alike", x.days(10), 2 + 1 + 8 * 2);
        due("29: KEPT of such a DAY", x.kept(9, 1), 2);
        x.rinse(1);
        due("29: bo is dry", x.days(1), 1);
        x.undo();
        x.undo();
        due("29: alike again", x.days(1), 2);
        x.change(1, 2);
        due("29: bo sits elsewhere", x.days(1), 0);
        due("29: none goes over any more", x.later(1, 0, 9), 3);
        x.change(1, 2);
        due("29: bo is back", x.days(2), 4);
        x.squeeze(0);
        due("29: abe is dry", x.days(1), 0);
        x.tell(0, 0, 8);
        due("29: abe is told anew", x.days(1), 2);
        due("29: up to bo's room", x.drops(1, 0), 3);
        x.days(20);
        Check.on(x, Check.sealed(0, 0, 0, 8, 0, 1, 0, 2, 3, 3, 0, 0, 0, 0, 0, 0, 0, 0, 0, 0, 0, 0, 0));
        due("29: by an image", x.days(2), 3);
        x.days(20);
        Check.registry(x, A);
        due("29: by a registry", x.days(2), 3);
    }

    private static void promise30() {
        SpongeClerks x = new SpongeClerks();
        due("30: without a registry", x.chance(1), -1);
        x = Check.office(A);
        due("30: n 0", x.chance(0), -1);
        due("30: n 101", x.chance(101), -1);
        due("30: refused", x.status(3), 2);
        // DRAWS from 1 on: 18; 0 of 3, 0 of 2: abe, bo. Then 80; 2 of 3, 0 of 2: cy, abe.
        due("30: a hand", x.chance(1), 1);
        due("30: half went, one came back", x.drops(0, 0), 5);
        due("30: bo", x.drops(1, 0), 3);
        due("30: by leaks and hands", x.kept(0, 1), 5);
        due("30: the DAY", x.has(3), 1);
        due("30: the next", x.chance(1), 1);
        due("30: cy gave one", x.drops(2, 0), 2);
        due("30: abe", x.drops(0, 0), 6);
        due("30: KEPT", x.kept(1, 1), 3);
        due("30: ACTS", x.has(9), 2);
        x = Check.office(A);
        due("30: one ACT", x.chance(2), 2);
        due("30: ACTS", x.has(9), 1);
        due("30: as above", x.drops(0, 0), 6);
        x = Check.office(A + "hand 18;");
        due("30: below hand", x.chance(1), 0);
        due("30: nothing but leaks", x.kept(0, 1), 2);
        // One DRAW a DAY without a hand: 18, 99, 26.
        x = Check.office(A + "hand 27;shakes all;");
        due("30: hand 27", x.chance(1), 1);
        x = Check.office(A + "hand 19;shakes off>1;");
        due("30: the TEST does not hold", x.chance(1), 0);
        due("30: abe leaks alone", x.drops(0, 0), 6);
        x = Check.office("seats 3;matter m;clerk a at 0 room 9;clerk b at 2 room 9;hand 100;");
        due("30: dry hands are shaken, too", x.chance(4), 4);
        due("30: nothing went over", x.kept(0, 1), 0);
        x = Check.office(A + "shakes off=1 and full=8 and seat=0 and room=10 and day=0;");
        due("30: of the first one", x.chance(1), 1);
        x = Check.office("seats 2;matter m;clerk a at 0 room 9;told a of m 8;hand 100;");
        due("30: one CLERK alone", x.chance(3), 0);
        // Three DRAWS of 100 were made: the fourth is 80, not below hand; the fifth, 16, is.
        Check.registry(x, "seats 3;matter m;clerk a at 0 room 9;clerk b at 2 room 9;told a of m 8;hand 80;");
        due("30: only DRAWS of 100 were made", x.chance(1), 0);
        due("30: then a hand", x.chance(1), 1);
        x = Check.office("seats 3;matter m;clerk a at 0 room 9;clerk b at 2 room 1;told a of m 8;hand 100;");
        x.seed(2147483647);
        // 99; 0 of 2, 0 of 1: abe, bo.
        due("30: as far as he can hold it", x.chance(1), 1);
        due("30: one", x.drops(1, 0), 1);
        due("30: the rest stays", x.drops(0, 0), 7);
        due("30: he is FULL", x.kept(0, 2), 1);
        due("30: 99 is below 100", x.status(3), 0);
    }

    private static void promise31() {
        SpongeClerks x = new SpongeClerks();
        due("31: none", x.undo(), false);
        due("31: refused", x.status(4), 1);
        x = Check.office(A);
        x.tell(0, 0, 9);
        x.squeeze(0);
        x.rinse(1);
        x.mop(0);
        x.change(0, 2);
        x.days(5);
        due("31: days", x.undo(), true);
        due("31: the DAY", x.has(3), 0);
        due("31: KEPT", x.has(7), 0);
        due("31: change", x.undo(), true);
        due("31: the seat", x.seat(0), 0);
        due("31: mop", x.undo(), true);
        due("31: the FLOOR", x.has(5), 7);
        due("31: he has none", x.clerk(0, 2), 0);
        due("31: rinse", x.undo(), true);
        due("31: bo has them", x.drops(1, 1), 2);
        due("31: RINSED", x.matter(1, 3), 0);
        due("31: squeeze", x.undo(), true);
        due("31: READ", x.matter(0, 2), 0);
        due("31: tell", x.undo(), true);
        due("31: abe", x.drops(0, 0), 8);
        due("31: the FLOOR", x.has(5), 0);
        due("31: no more", x.undo(), false);
        due("31: refused", x.status(4), 1);
        x.squeeze(3);
        due("31: what was refused is no ACT", x.undo(), false);
        x.days(50);
        x.days(50);
        x.undo();
        due("31: the oldest KEPT is back", x.kept(0, 0), 10);
        due("31: the latest KEPT is back", x.kept(39, 0), 49);
        x = Check.office(A);
        x.chance(2);
        due("31: by the seed", x.undo(), true);
        due("31: all is back", x.drops(2, 0), 3);
        // The seed stays: 68; 0 of 3, 1 of 2: abe, cy.
        x.chance(1);
        due("31: the seed stays", x.drops(2, 0), 7);
        x = Check.office(A);
        for (int k = 1; k <= 21; k++) {
            x.days(1);
        }
        for (int k = 0; k < 20; k++) {
            due("31: the last 20", x.undo(), true);
        }
        due("31: not the 21st", x.undo(), false);
        due("31: it stands", x.has(3), 1);
        due("31: and is KEPT", x.has(7), 1);
    }

    private static void promise32() {
        SpongeClerks x = new SpongeClerks();
        due("32: without a registry", x.seed(5), true);
        due("32: below 0", x.seed(-1), false);
        due("32: far below 0", x.seed(Integer.MIN_VALUE), false);
        due("32: refused", x.status(5), 2);
        due("32: 0", x.seed(0), true);
        due("32: the most", x.seed(Integer.MAX_VALUE), true);
        // From 5 on: 57; 1 of 3, 1 of 2: bo, cy.
        x.seed(5);
        Check.registry(x, A);
        x.chance(1);
        due("32: bo gave cy one", x.drops(2, 1), 1);
        due("32: it is no ACT", x.has(9), 1);
        x = Check.office(A + "hand 92;");
        x.seed(0);
        due("32: 92 is not below 92", x.chance(1), 0);
        due("32: 1 at first", Check.office(A + "hand 19;").chance(1), 1);
    }

    private static void promise33() {
        SpongeClerks x = new SpongeClerks();
        due("33: without a registry", Check.ask(x, "often all"), NOTHING);
        due("33: the tape goes", x.end(1), false);
        Check.registry(x, A + "told a of w 1;");
        x.days(1);
        // a: m 6, w 1, seat 0, room 10; b: m 2, w 2, seat 1, room 6; c: m 3, seat 3, room 8; DAY 1.
        due("33: first", Check.ask(x, "first full<7"), 1);
        due("33: last", Check.ask(x, "last full<7"), 2);
        due("33: first of all", Check.ask(x, "first all"), 0);
        due("33: last of one", Check.ask(x, "last number<1"), 0);
        due("33: not of >", Check.ask(x, "often not number>0"), 1);
        due("33: not of =", Check.ask(x, "often not number=0"), 2);
        due("33: not of <", Check.ask(x, "often not number<1"), 2);
        due("33: first of none", Check.ask(x, "first full>9"), -1);
        due("33: last of none", Check.ask(x, "last not all"), -1);
        due("33: often", Check.ask(x, "often room>6"), 2);
        due("33: total", Check.ask(x, "total full"), 14);
        due("33: most", Check.ask(x, "most seat*day"), 3);
        due("33: least", Check.ask(x, "least 0-seat"), -3);
        due("33: number", Check.ask(x, "total number*number"), 5);
        due("33: mind, of like ones the first", Check.ask(x, "total mind"), 0);
        due("33: drops", Check.ask(x, "total drops 0*10+drops 1"), 113);
        due("33: drops of none", Check.ask(x, "total drops 2+drops(0-1)"), 0);
        due("33: drops of a PART", Check.ask(x, "total drops drops(0)/9"), 0);
        due("33: drops of drops", Check.ask(x, "total drops(drops 1)"), 0 + 1 + 3);
        due("33: drops of min", Check.ask(x, "total drops min(1,9)"), 3);
        due("33: off", Check.ask(x, "total off 1"), 3);
        due("33: off of none", Check.ask(x, "total off 3+off(0-1)"), 0);
        due("33: off off", Check.ask(x, "total off off 0"), 0 + 0 + 0);
        due("33: or, and", Check.ask(x, "often number=0 or number=1 and number=2"), 1);
        due("33: [ ]", Check.ask(x, "often [number=0 or number=1]and number=1"), 1);
        due("33: not is of its FACT alone", Check.ask(x, "often not number=0 or all"), 3);
        due("33: not", Check.ask(x, "often not number=0 and number<2"), 1);
        due("33: many of 10 to the 6", Check.ask(x, "total 9999*9999"), 3000000);
        due("33: below", Check.ask(x, "least 0-9999*9999-5"), -1000000);
        due("33: blanks", Check.ask(x, "\n total\n7 "), 21);
        x.rinse(1);
        due("33: no mind", Check.ask(x, "first mind<0"), 1);
        due("33: drops mind", Check.ask(x, "total drops mind"), 9);
        due("33: nothing is refused", x.status(1), 0);
        questionFaults(x);
        x = Check.office("seats 2;");
        due("33: without CLERKS", Check.ask(x, "first all"), -1);
        due("33: without CLERKS", Check.ask(x, "often all"), 0);
        due("33: without CLERKS", Check.ask(x, "most 5"), 0);
        due("33: without CLERKS", Check.ask(x, "least 0-5"), 0);
        due("33: without CLERKS", Check.ask(x, "total 5"), 0);
    }

    private static void questionFaults(SpongeClerks x) {
        Object[][] rows = {{"", 1, 0}, {" \n", 1, 2}, {"foo all", 1, 0}, {"seats 3", 1, 0}, {"often", 1, 5},
            {"often5<6", 1, 5}, {"often [all", 1, 10}, {"often all;", 1, 9}, {"often all all", 1, 10},
            {"often foo<3", 1, 6}, {"often space<3", 1, 6}, {"often matter<3", 1, 6}, {"total 3<4", 1, 7},
            {"total 12345", 1, 10}, {"total drops", 1, 11}, {"total drops0", 1, 11}, {"total drops 0 0", 1, 14},
            {"total min 3", 1, 10}, {"total min(3)", 1, 11}, {"total max(3,4", 1, 13}, {"often 3", 1, 7},
            {"often all 3", 1, 10}, {"Often all", 1, 0}, {"often 1<2or 3<4", 1, 9}, {"often 1<2 or3<4", 1, 12},
            {"total ((((((1))))))", 0, -1}, {"total (((((((1)))))))", 4, 12},
            {"total drops drops off drops off off 1", 0, -1},
            {"total drops drops off drops off off off 1", 4, 36},
            {"often not not not not not not all", 0, -1}, {"often not not not not not not not all", 4, 30},
            {"often [[[[[[all]]]]]] and [[[[[[[all", 4, 32}, {"often not [not (drops min(1,2)) <3]", 0, -1},
            {"often not [not (drops min(1,(2))) <3]", 4, 28}, {"total (((((min 2", 1, 15},
            {"total ((((((min(1,2", 4, 15}, {"often not not not not not not 1<2 and not not not not not not all", 0, -1},
            {"total drops drops drops drops drops drops 1 + drops drops drops drops drops drops 1", 0, -1}};
        for (Object[] row : rows) {
            String text = (String) row[0];
            int kind = (Integer) row[1];
            due("33: " + text, Check.ask(x, text) == NOTHING, kind != 0);
            due("33: FAULT of " + text, x.fault(0), kind);
            due("33: its place in " + text, x.fault(1), (Integer) row[2]);
        }
    }

    private static int[] image(SpongeClerks x) {
        int[] bytes = new int[x.image()];
        for (int k = 0; k < bytes.length; k++) {
            bytes[k] = x.octet(k);
        }
        return bytes;
    }

    private static void promises34and35() {
        SpongeClerks x = new SpongeClerks();
        due("35: ahead of any", x.octet(0), -1);
        due("34: without a registry", x.image(), 3);
        due("35: the last byte", x.octet(2), 213);
        Check.registry(x, A);
        due("35: the latest stays", x.octet(2), 213);
        for (int k = 0; k < 3; k++) {
            x.days(100);
        }
        x.rinse(0);
        x.squeeze(1);
        x.tell(0, 0, 99);
        for (int k = 0; k < 3; k++) {
            x.tell(0, 0, 99);
        }
        due("34: how many", x.image(), 24);
        // Of 8 drops 3 are with bo and READ, with w 2; 5 are RINSED; abe holds 10 of 396.
        int[] want = Check.sealed(1, 44, 0, 10, 0, 1, 0, 0, 3, 3, 0, 1, 130, 0, 3, 0, 5, 0, 0, 0, 2, 0, 0);
        for (int k = 0; k < want.length; k++) {
            due("35: octet(" + k + ")", x.octet(k), want[k]);
        }
        due("35: octet(24)", x.octet(24), -1);
        due("35: octet(-1)", x.octet(-1), -1);
        x.rinse(0);
        due("35: of the latest image()", x.octet(3), 10);
        x.image();
        due("35: of the new one", x.octet(3), 0);
    }

    private static void promise36() {
        int[] body = {3, 231, 2, 4, 6, 1, 0, 6, 0, 8, 0, 39, 15, 39, 15, 39, 15, 0, 0, 0, 1, 0, 2};
        SpongeClerks x = new SpongeClerks();
        due("36: without a registry", Check.on(x, 0, 0, 213), false);
        due("36: the tape goes", x.end(1), false);
        due("36: refused", x.status(5), 1);
        x = Check.office(A);
        x.days(2);
        Check.see(x, 0, 0, 0, 9);
        int[][] wrong = {{0, 4}, {1, 232}, {2, 4}, {2, 1}, {2, 255}, {3, 5}, {7, 7}, {9, 9}, {11, 40}, {12, 16},
            {14, 16}, {16, 16}, {17, 255}};
        for (int[] w : wrong) {
            int[] spoilt = body.clone();
            spoilt[w[0]] = w[1];
            due("36: byte " + w[0] + " as " + w[1], Check.on(x, Check.sealed(spoilt)), false);
        }
        int[] image = Check.sealed(body);
        image[23] = (image[23] + 1) % 251;
        due("36: the last byte", Check.on(x, image), false);
        due("36: too short", Check.on(x, body), false);
        due("36: too short", Check.on(x, Check.sealed(java.util.Arrays.copyOf(body, 22))), false);
        due("36: too long", Check.on(x, Check.sealed(java.util.Arrays.copyOf(body, 24))), false);
        due("36: nothing", Check.on(x), false);
        due("36: refused", x.status(5), wrong.length + 5);
        due("36: all stays: DAY", x.has(3), 2);
        due("36: all stays: ACTS", x.has(9), 1);
        due("36: all stays: KEPT", x.has(7), 2);
        due("36: all stays: abe", x.drops(0, 0), 5);
        due("36: on", Check.on(x, Check.sealed(body)), true);
        due("36: the tape goes", x.end(1), false);
        due("36: DAY", x.has(3), 999);
        due("36: seat", x.seat(2), 0);
        due("36: seat", x.seat(0), 2);
        due("36: seat", x.seat(3), -1);
        due("36: drops", x.drops(0, 1), 6);
        due("36: FULL", x.clerk(0, 2), 10);
        due("36: FULL ones", x.has(6), 3);
        due("36: FLOOR", x.matter(0, 1), 9999);
        due("36: READ", x.matter(1, 2), 1);
        due("36: RINSED", x.matter(1, 3), 2);
        due("36: nothing is KEPT", x.has(7), 0);
        due("36: nothing can be undone", x.undo(), false);
        due("36: SEEN stays", x.has(8), 1);
        int[] again = image(x);
        due("36: the same image", java.util.Arrays.equals(again, Check.sealed(body)), true);
        x = Check.office("seats 2;matter a;matter b;matter d;clerk c at 0 room 5;told c of a 5;");
        x.tell(0, 2, 7);
        Check.registry(x, "seats 2;matter a;clerk c at 0 room 5;");
        Check.on(x, Check.sealed(0, 0, 1, 2, 0, 3, 0, 4, 0, 5));
        due("36: the FLOOR of this REGISTRY alone", x.has(5), 3);
        due("36: of no CLERK", Check.on(Check.office("seats 2;"), 0, 0, 213), true);
    }

    private static void promise37() {
        SpongeClerks x = new SpongeClerks();
        x.end(1);
        x.registry();
        x.see();
        x.tell(0, 0, 1);
        x.squeeze(0);
        x.rinse(0);
        x.mop(0);
        x.change(0, 1);
        x.days(1);
        x.chance(1);
        x.undo();
        x.seed(-1);
        x.on();
        x.ask();
        int[] want = {1, 2, 5, 2, 1, 2};
        for (int k = 0; k < 6; k++) {
            due("37: status(" + k + ")", x.status(k), want[k]);
        }
        due("37: status(6)", x.status(6), -1);
        due("37: status(-1)", x.status(-1), -1);
    }
}
