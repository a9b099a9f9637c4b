/** Parts II to IV of the Terms: each sentence that names a boundary case, at it and on both sides of it. */
public final class TermsEdgeTest {
    /** Two next to one another, both with much room. */
    private static final String TWO = "seats 2;matter m;clerk a at 0 room 99;clerk b at 1 room 99;";
    /** Abe has room for 9, bo for 5, of two MATTERS. */
    private static final String PAIR = "seats 2;matter m;matter w;clerk a at 0 room 9;clerk b at 1 room 5;";
    /** Three in a row, of whom bo alone leaks, one drop to each side. */
    private static final String THREE = "seats 3;matter m;clerk a at 0 room 9;clerk b at 1 room 9;clerk c at 2 room 9;";

    private TermsEdgeTest() {
    }

    public static void main(String[] args) {
        full();
        next();
        atFirst();
        goOver();
        bySeats();
        roundAndRound();
        stillUntilAnAct();
        stillUntilItsDay();
        stillAhead();
        dayByDay();
        lastDay();
        floor();
        squeezedAndRinsed();
        mopping();
        changing();
        belowHand();
        twoClerks();
        half();
        asFarAsHeCan();
        undone();
        kept();
        draws();
        readAndRinsedAtMost();
        ahead();
        knows();
        discreet();
        pressed();
        mops();
        desks();
        power();
        seenAndSources();
        telling();
        tellingOfSeven();
        questions();
        mind();
        dropsAndOff();
        openInQuestions();
        images();
        Check.finish("TermsEdgeTest");
    }

    // ---- II

    private static void full() {
        Edge.sentence("A CLERK is FULL by the drops of all MATTERS that he has together, never above his room.");
        SpongeClerks x = Check.office(PAIR + "told b of m 2;");
        int[] more = {1, 1, 1, 1};
        int[] fullThen = {3, 4, 5, 5};
        int[] spilt = {0, 0, 0, 1};
        for (int k = 0; k < more.length; k++) {
            Edge.due("tell", x.tell(1, k % 2, more[k]), spilt[k]);
            Edge.due("FULL", x.clerk(1, 2), fullThen[k]);
            Edge.due("FULL ones", x.has(6), fullThen[k] == 5 ? 1 : 0);
        }
        Edge.due("of m", x.drops(1, 0), 4);
        Edge.due("of w", x.drops(1, 1), 1);
    }

    private static void next() {
        Edge.sentence("NEXT to one sit those on the seats less and more by one.");
        for (int n = 2; n <= 9; n++) {
            SpongeClerks x = Check.office("seats " + n + ";matter m;clerk a at 0 room 99;clerk b at " + (n - 1)
                    + " room 99;told a of m 8;told b of m 8;");
            Edge.due("ahead of seat 0 of " + n, x.leak(0, 0, 0), -1);
            Edge.due("behind the last seat of " + n, x.leak(1, 1, 0), -1);
            Edge.due("from seat 0 on", x.leak(0, 1, 0), n == 2 ? 2 : -1);
            Edge.due("from the last seat on", x.leak(1, 0, 0), n == 2 ? 2 : -1);
            Edge.due("so many go over", x.days(1), n == 2 ? 4 : 0);
        }
        for (int seat = 0; seat < 5; seat++) {
            if (seat != 2) {
                SpongeClerks x = Check.office("seats 5;matter m;clerk a at 2 room 9;clerk b at " + seat + " room 9;told a of m 8;");
                Edge.due("less, to seat " + seat, x.leak(0, 0, 0), seat == 1 ? 2 : -1);
                Edge.due("more, to seat " + seat, x.leak(0, 1, 0), seat == 3 ? 2 : -1);
                Edge.due("so many go over", x.days(1), seat == 1 || seat == 3 ? 2 : 0);
            }
        }
    }

    private static void atFirst() {
        Edge.sentence("at first none but in CLERKS.");
        SpongeClerks x = Check.office(PAIR + "told b of w 5;");
        for (int matter = 0; matter < 2; matter++) {
            Edge.due("in CLERKS", x.matter(matter, 0), 5 * matter);
            for (int where = 1; where <= 3; where++) {
                Edge.due("matter(" + matter + ", " + where + ")", x.matter(matter, where), 0);
            }
        }
        Edge.due("has(5)", x.has(5), 0);
    }

    private static void goOver() {
        Edge.sentence("but no fewer than 0, no more than he has of it, no more than the other one can hold then.");
        // Abe has 5; bo can hold 9 more, or 3.
        int[] told = {-6, -1, 0, 1, 4, 5, 6, 9999};
        int[] wide = {0, 0, 0, 1, 4, 5, 5, 5};
        int[] tight = {0, 0, 0, 1, 3, 3, 3, 3};
        for (int k = 0; k < told.length; k++) {
            String sum = told[k] < 0 ? "0-" + -told[k] : String.valueOf(told[k]);
            String text = "seats 2;matter m;clerk a at 0 room 9;clerk b at 1 room 9;told a of m 5;leaks (1-seat)*(" + sum + ");";
            SpongeClerks x = Check.office(text);
            Edge.due("leak of " + sum, x.leak(0, 1, 0), wide[k]);
            Edge.due("days of " + sum, x.days(1), wide[k]);
            Edge.due("abe then", x.drops(0, 0), 5 - wide[k]);
            Edge.due("bo then", x.drops(1, 0), wide[k]);
            x = Check.office(text + "told b of m 6;");
            Edge.due("leak of " + sum + " to 3", x.leak(0, 1, 0), tight[k]);
            Edge.due("days of " + sum + " to 3", x.days(1), tight[k]);
            Edge.due("bo then", x.drops(1, 0), 6 + tight[k]);
        }
        // What the first MATTER fills the second one can't: bo can hold 4 of the 3 and 3.
        SpongeClerks x = Check.office(PAIR + "told a of m 3;told a of w 3;told b of w 1;leaks (1-seat)*drops;");
        Edge.due("now each could", x.leak(0, 1, 1), 3);
        Edge.due("then one is left over for it", x.days(1), 4);
        Edge.due("m", x.drops(1, 0), 3);
        Edge.due("w", x.drops(1, 1), 2);
        Edge.due("he is FULL behind it", x.kept(0, 2), 1);
        Edge.due("and nothing goes over any more", x.days(1), 0);
    }

    private static void bySeats() {
        Edge.sentence("first to the one NEXT to him on the seat less by one, then to the other one, if there is one;");
        // Bo, in the middle, has one drop: it goes to the seat less, if one sits there.
        String rest = "clerk b at 1 room 9;clerk c at 2 room 9;told b of m 1;leaks seat-seat/2*2;";
        SpongeClerks x = Check.office("seats 3;matter m;clerk a at 0 room 9;" + rest);
        x.days(1);
        Edge.due("to seat 0", x.drops(0, 0), 1);
        Edge.due("not to seat 2", x.drops(2, 0), 0);
        x = Check.office("seats 3;matter m;" + rest);
        x.days(1);
        Edge.due("none on seat 0: to seat 2", x.drops(1, 0), 1);
        x = Check.office("seats 3;matter m;clerk a at 0 room 9;clerk b at 1 room 9;told b of m 1;leaks seat-seat/2*2;");
        x.change(0, 2);
        Edge.due("seat 0 is empty now", x.leak(1, 0, 0), -1);
        Edge.due("it goes to seat 2", x.days(1), 1);
        x = Check.office("seats 3;matter m;clerk b at 1 room 9;told b of m 1;leaks 1;");
        Edge.due("none is next", x.days(1), 0);
        Edge.due("it stays", x.drops(0, 0), 1);
    }

    /** Abe gives bo a drop, who gives it back: each DAY is like the one ahead of it, and two drops go over. */
    private static void roundAndRound() {
        Edge.sentence("so many drops go over as the SUM of leaks tells, by what is so then,");
        SpongeClerks x = Check.office(TWO + "told a of m 1;leaks 1;");
        for (int n = 1; n <= 5; n++) {
            Edge.due(n + " DAYS", x.days(n), 2 * n);
        }
        for (int k = 0; k < 15; k++) {
            Edge.due("kept(" + k + ", 0)", x.kept(k, 0), k);
            Edge.due("kept(" + k + ", 1)", x.kept(k, 1), 2);
        }
        Edge.due("by the seed", x.chance(3), 0);
        Edge.due("kept(17, 1)", x.kept(17, 1), 2);
        Edge.due("later", x.later(0, 0, 9), 1);
        x.tell(1, 0, 3);
        Edge.due("told 3 more: one comes, one goes", x.days(2), 4);
        x.squeeze(1);
        x.rinse(0);
        Edge.due("all dry", x.days(2), 0);
        for (int k = 0; k < 3; k++) {
            x.undo();
        }
        Edge.due("as before it was squeezed", x.days(3), 6);
        x.undo();
        x.undo();
        Edge.due("as before he was told", x.drops(1, 0) + x.drops(0, 0), 4);
        x.undo();
        Edge.due("as before he was told", x.drops(1, 0), 0);
        Edge.due("two drops a DAY", x.days(4), 8);
        Edge.due("KEPT", x.kept(x.has(7) - 1, 1), 2);
    }

    /** Three of abe's drops do not leak, four do: what an ACT brings counts from the next DAY on. */
    private static void stillUntilAnAct() {
        String text = "seats 3;matter m;matter w;clerk a at 0 room 9;clerk b at 1 room 9;told a of m 3;";
        SpongeClerks x = Check.office(text);
        Edge.due("nothing goes over", x.days(3), 0);
        x.tell(0, 0, 1);
        Edge.due("told one more", x.days(1), 1);
        Edge.due("bo", x.drops(1, 0), 1);
        Edge.due("nothing again", x.days(2), 0);
        x.tell(1, 1, 20);
        Edge.due("of w, bo is full: two go to abe", x.days(1), 2);
        x = Check.office("seats 3;matter m;matter w;clerk a at 0 room 9;clerk b at 2 room 9;told a of m 8;");
        Edge.due("none is next", x.days(2), 0);
        x.change(1, 2);
        Edge.due("bo is next", x.days(1), 2);
        x = Check.office(text);
        Edge.put(x, 0, new int[][] {{0, 3, 0}, {1, 0, 0}}, new int[][] {{1, 0, 0}, {0, 0, 0}});
        x.days(2);
        x.mop(0);
        Edge.due("mopped up one", x.days(1), 1);
        x = Check.office(text);
        x.days(2);
        Edge.put(x, 5, new int[][] {{0, 8, 0}, {1, 0, 0}}, new int[][] {{0, 0, 0}, {0, 0, 0}});
        Edge.due("an image with more", x.days(1), 2);
        x = Check.office(text);
        x.days(2);
        Check.registry(x, text + "told a of m 5;");
        Edge.due("a registry with more", x.days(1), 2);
        // Bo, full of w, holds abe's drops back until he is rinsed.
        x = Check.office("seats 2;matter m;matter w;clerk a at 0 room 9;clerk b at 1 room 5;told a of m 8;told b of w 5;leaks (1-seat)*drops/4;");
        Edge.due("bo is full", x.days(2), 0);
        x.rinse(1);
        Edge.due("bo is dry", x.days(1), 2);
        x.undo();
        x.undo();
        Edge.due("bo is full again", x.days(1), 0);
        x.squeeze(1);
        Edge.due("bo is squeezed", x.days(1), 2);
        // Hands bring bo the fourth drop, which then leaks back.
        x = Check.office("seats 2;matter m;clerk a at 0 room 9;clerk b at 1 room 9;told a of m 3;told b of m 3;hand 1;");
        Edge.due("still", x.days(2), 0);
        x.seed(42);
        Edge.due("hands", x.chance(1), 1);
        Edge.due("one by hand, one back", x.kept(2, 1), 2);
        Edge.due("abe", x.drops(0, 0), 3);
    }

    /** Where leaks asks for the DAY, a DAY on which nothing goes over says nothing of the next one. */
    private static void stillUntilItsDay() {
        String[] sums = {"day*(1-seat)", "(1-seat)*day", "(0+day)*(1-seat)", "max(day,0)*(1-seat)", "min(9,(1-seat)*day)"};
        for (String sum : sums) {
            SpongeClerks x = Check.office(TWO + "told a of m 20;leaks " + sum + ";");
            Edge.due("behind one DAY, " + sum, x.later(1, 0, 1), 0);
            Edge.due("behind four DAYS, " + sum, x.later(1, 0, 4), 6);
            Edge.due("hears, " + sum, x.hears(1, 0), 2);
            for (int day = 0; day < 5; day++) {
                Edge.due("on DAY " + day + ", " + sum, x.days(1), day);
            }
        }
        SpongeClerks x = Check.office(TWO + "told a of m 9;leaks day/50*(1-seat);");
        Edge.due("up to DAY 49", x.days(50), 0);
        Edge.due("on DAY 50", x.days(1), 1);
        x = Check.office(TWO + "told a of m 9;leaks (1-day/2)*(1-seat);");
        Edge.due("on DAYS 0, 1 alone", x.days(9), 2);
        // The leaks of a registry ahead do not count.
        Check.registry(x, TWO + "told a of m 9;leaks (1-seat)*0;");
        Edge.due("no more", x.days(9), 0);
        Check.registry(x, TWO + "told a of m 9;leaks (1-seat)*(day-day/2*2);");
        Edge.due("on each other DAY", x.days(9), 4);
    }

    /** What is tried AHEAD is tried from where drops are after the change, not from still DAYS. */
    private static void stillAhead() {
        SpongeClerks x = Check.office("seats 2;matter m;clerk a at 0 room 9;clerk b at 1 room 9;told a of m 3;");
        x.days(2);
        Check.see(x, 1, 0, 0, 3, 1, 1, 0, 1);
        Edge.due("told one, abe leaks one; or bo has it", x.sources(0, 1), 3);
        Edge.due("told two, abe keeps four", x.sources(0, 2), 0);
        x = Check.office("seats 3;matter m;clerk a at 0 room 9;clerk b at 2 room 9;told a of m 1;told b of m 1;leaks drops;");
        Edge.due("none is next", x.days(2), 0);
        Edge.due("side by side abe has both", x.discreet(0, 1, 2), 1);
        Edge.due("less", x.discreet(0, 1, 0), 0);
        Edge.due("more", x.discreet(0, 1, 1), 1);
        Edge.due("as they sit", x.knows(0, 1), 3);
        // Where nothing leaks none need be squeezed, and none can help abe, who has it.
        x = Check.office(THREE + "told a of m 1;told b of m 1;leaks 0;");
        x.days(2);
        Edge.due("nothing leaks", x.pressed(2, 0, 30), 0);
        Edge.due("abe has it", x.pressed(0, 0, 30), -1);
    }

    /** A DAY hangs on what is so alone: gone through one by one, each by a new object and an image, DAYS are as at once. */
    private static void dayByDay() {
        int[][] seats = {{8, 0, 3, 5, 2, 7, 4}, {6, 0, 3, 5, 2, 1, 4}};
        String[] leaks = {"drops/4", "drops/2", "drops-1", "1+matter", "space/5", "full/8", "(9-seat)/2", "day-matter", "drops*(day-day/2*2)"};
        for (int[] row : seats) {
            for (String sum : leaks) {
                dayByDay(crowd(row) + "leaks " + sum + ";");
            }
        }
    }

    /** Seven CLERKS and four MATTERS, those on every other seat with many drops of each. */
    private static String crowd(int[] seats) {
        StringBuilder text = new StringBuilder("seats 9;matter m;matter n;matter o;matter p;");
        for (int k = 0; k < 7; k++) {
            char name = (char) ('a' + k);
            text.append("clerk ").append(name).append(" at ").append(seats[k]).append(" room ").append(90 + k).append(';');
            for (int m = 0; m < 4; m++) {
                int much = seats[k] % 2 == 0 ? 20 - m : m;
                text.append("told ").append(name).append(" of ").append((char) ('m' + m)).append(' ').append(much).append(';');
            }
        }
        return text.toString();
    }

    private static void dayByDay(String office) {
        SpongeClerks x = Check.office(office);
        SpongeClerks y = Check.office(office);
        for (int n = 1; n <= 6; n++) {
            int[] image = image(y);
            y = Check.office(office);
            Edge.due("on, " + office, Check.on(y, image), true);
            int[] behind = image(y);
            Edge.due("the image of an image", behind[behind.length - 1], image[image.length - 1]);
            Edge.due("DAY " + n + ", " + office, x.days(1), y.days(1));
        }
        alikeRooms("one by one, " + office, x, y);
        SpongeClerks z = Check.office(office);
        z.days(6);
        alikeRooms("at once, " + office, z, y);
    }

    private static int[] image(SpongeClerks x) {
        int[] bytes = new int[x.image()];
        for (int k = 0; k < bytes.length; k++) {
            bytes[k] = x.octet(k);
        }
        return bytes;
    }

    private static void alikeRooms(String what, SpongeClerks x, SpongeClerks y) {
        int[] one = image(x);
        int[] other = image(y);
        Edge.due(what + ": bytes", one.length, other.length);
        for (int k = 0; k < one.length; k++) {
            Edge.due(what + ": octet(" + k + ")", one[k], other[k]);
        }
    }

    private static void lastDay() {
        Edge.sentence("The DAY is one more (999 at most).");
        SpongeClerks x = Check.office(TWO);
        Edge.put(x, 997, new int[][] {{0, 0}, {1, 0}}, new int[][] {{0, 0, 0}});
        Edge.due("three more", x.days(3), -1);
        Edge.due("two more", x.days(2), 0);
        Edge.due("DAY", x.has(3), 999);
        Edge.due("one more", x.days(1), -1);
        Edge.due("one more by the seed", x.chance(1), -1);
        Edge.due("DAY stays", x.has(3), 999);
        x.undo();
        Edge.due("DAY 997 again", x.has(3), 997);
        Edge.due("three more by the seed", x.chance(3), -1);
        Edge.due("one more by the seed", x.chance(1), 0);
        Edge.due("DAY", x.has(3), 998);
        Edge.due("one more by the seed", x.chance(1), 0);
        Edge.due("DAY", x.has(3), 999);
    }

    private static void floor() {
        Edge.sentence("those that he can't hold go to the FLOOR (9999 of each MATTER there at most);");
        int[][] seats = {{0, 9, 0}, {1, 4, 0}};
        // On the FLOOR, the drops told to bo, who can hold one; what spills, or NONE.
        int[][] rows = {{9999, 1, 0}, {9999, 2, -1}, {9998, 2, 1}, {9998, 3, -1}, {9997, 3, 2}, {9901, 99, 98}, {9902, 99, -1},
            {0, 99, 98}};
        for (int[] row : rows) {
            SpongeClerks x = Check.office(PAIR);
            Edge.put(x, 0, seats, new int[][] {{row[0], 0, 0}, {9999, 0, 0}});
            Edge.due("tell " + row[1] + " at " + row[0], x.tell(1, 0, row[1]), row[2]);
            Edge.due("on the FLOOR", x.matter(0, 1), row[0] + Math.max(0, row[2]));
            Edge.due("bo", x.drops(1, 0), row[2] < 0 ? 4 : 5);
            Edge.due("of the other MATTER", x.matter(1, 1), 9999);
            Edge.due("refused", x.status(2), row[2] < 0 ? 1 : 0);
            Edge.due("ACTS", x.has(9), row[2] < 0 ? 0 : 1);
        }
        SpongeClerks x = Check.office(PAIR);
        Edge.put(x, 0, seats, new int[][] {{9999, 0, 0}, {9998, 0, 0}});
        Edge.due("of each MATTER: w", x.tell(0, 1, 1), 1);
        Edge.due("of each MATTER: m", x.tell(0, 0, 1), -1);
        Edge.due("of each MATTER: w again", x.tell(0, 1, 1), -1);
        Edge.due("together", x.has(5), 19998);
    }

    private static void squeezedAndRinsed() {
        Edge.sentence("one is squeezed: all his drops are READ; one is rinsed: all are RINSED;");
        int[][] drops = {{0, 0}, {1, 0}, {0, 1}, {5, 4}};
        for (int[] row : drops) {
            int all = row[0] + row[1];
            for (int where = 2; where <= 3; where++) {
                SpongeClerks x = Check.office(PAIR + "told a of m " + row[0] + ";told a of w " + row[1] + ";told b of m 3;");
                Edge.due("of " + all, where == 2 ? x.squeeze(0) : x.rinse(0), all == 0 ? -1 : all);
                Edge.due("FULL", x.clerk(0, 2), 0);
                for (int matter = 0; matter < 2; matter++) {
                    Edge.due("abe", x.drops(0, matter), 0);
                    Edge.due("READ", x.matter(matter, 2), where == 2 ? row[matter] : 0);
                    Edge.due("RINSED", x.matter(matter, 3), where == 3 ? row[matter] : 0);
                }
                Edge.due("bo", x.drops(1, 0), 3);
            }
        }
    }

    private static void mopping() {
        Edge.sentence("he takes from the FLOOR, MATTER by MATTER, as many as he can hold;");
        // Of m and w on the FLOOR; bo can hold three more: he takes so many.
        int[][] rows = {{0, 0, -1, 0}, {1, 0, 1, 0}, {0, 1, 0, 1}, {2, 1, 2, 1}, {3, 0, 3, 0}, {3, 1, 3, 0}, {4, 2, 3, 0},
            {1, 9, 1, 2}, {0, 4, 0, 3}};
        for (int[] row : rows) {
            SpongeClerks x = Check.office(PAIR);
            Edge.put(x, 0, new int[][] {{0, 0, 0}, {1, 1, 1}}, new int[][] {{row[0], 0, 0}, {row[1], 0, 0}});
            int m = Math.max(0, row[2]);
            Edge.due("mop of " + row[0] + ", " + row[1], x.mop(1), row[2] < 0 ? -1 : m + row[3]);
            Edge.due("m", x.drops(1, 0), 1 + m);
            Edge.due("w", x.drops(1, 1), 1 + row[3]);
            Edge.due("left of m", x.matter(0, 1), row[0] - m);
            Edge.due("left of w", x.matter(1, 1), row[1] - row[3]);
        }
        SpongeClerks x = Check.office(PAIR);
        Edge.put(x, 0, new int[][] {{0, 0, 0}, {1, 4, 1}}, new int[][] {{1, 0, 0}, {0, 0, 0}});
        Edge.due("he is full", x.mop(1), -1);
        Edge.due("it stays there", x.has(5), 1);
    }

    private static void changing() {
        Edge.sentence("two seats change who sits there (one may be empty);");
        String text = "seats 4;matter m;clerk a at 0 room 9;clerk b at 1 room 9;told a of m 8;";
        SpongeClerks x = Check.office(text);
        Edge.due("both sit there", x.change(0, 1), true);
        Edge.due("bo", x.seat(0), 1);
        Edge.due("abe", x.seat(1), 0);
        Edge.due("the other is empty", x.change(1, 3), true);
        Edge.due("empty", x.seat(1), -1);
        Edge.due("abe", x.seat(3), 0);
        Edge.due("his seat", x.clerk(0, 0), 3);
        Edge.due("bo's seat", x.clerk(1, 0), 0);
        Edge.due("the one is empty", x.change(1, 3), true);
        Edge.due("abe is back", x.seat(1), 0);
        Edge.due("empty", x.seat(3), -1);
        Edge.due("both are empty", x.change(2, 3), false);
        Edge.due("his drops come along", x.leak(0, 0, 0), 2);
    }

    private static void belowHand() {
        Edge.sentence("ahead of each a DRAW of 100: below hand,");
        int[] seeds = {0, 1, 2, 5, 7, 42, 2147483647};
        for (int seed : seeds) {
            int draw = Edge.draw(seed, 0, 100);
            for (int hand = draw - 1; hand <= draw + 1; hand++) {
                if (hand >= 0 && hand <= 100) {
                    SpongeClerks x = Check.office(TWO + "hand " + hand + ";");
                    x.seed(seed);
                    Edge.due("hand " + hand + ", DRAW " + draw, x.chance(1), draw < hand ? 1 : 0);
                }
            }
        }
    }

    /** How many DRAWS were made since the seed was told tells the next one: both objects stand alike. */
    private static void nextDraw(String what, SpongeClerks x, SpongeClerks twin, int seed, int made) {
        int next = Edge.draw(seed, made, 100);
        Check.registry(x, TWO + "hand " + next + ";");
        Edge.due(what + ": " + made + " DRAWS, not below", x.chance(1), 0);
        Check.registry(twin, TWO + "hand " + (next + 1) + ";");
        Edge.due(what + ": " + made + " DRAWS, below", twin.chance(1), 1);
    }

    private static void twoClerks() {
        Edge.sentence("if there are two CLERKS, a DRAW of them all, a DRAW of the others (by numbers):");
        String[] clerks = {"", "clerk a at 0 room 9;", "clerk a at 0 room 9;clerk b at 1 room 9;",
            "clerk a at 0 room 9;clerk b at 1 room 9;clerk c at 2 room 9;"};
        for (int many = 0; many < clerks.length; many++) {
            SpongeClerks[] two = new SpongeClerks[2];
            for (int k = 0; k < 2; k++) {
                two[k] = Check.office("seats 4;matter m;" + clerks[many] + "hand 100;");
                two[k].seed(7);
                Edge.due(many + " CLERKS", two[k].chance(1), many < 2 ? 0 : 1);
            }
            nextDraw(many + " CLERKS", two[0], two[1], 7, many < 2 ? 1 : 3);
        }
        SpongeClerks[] two = {Check.office(TWO), Check.office(TWO)};
        two[0].chance(4);
        two[1].chance(4);
        nextDraw("without a hand one DRAW a DAY", two[0], two[1], 1, 4);
        // Each pair of unlike ones: the giver by a DRAW of 3, the taker by a DRAW of the two others.
        String three = "seats 6;matter m;clerk a at 0 room 9;clerk b at 2 room 9;clerk c at 4 room 9;"
                + "told a of m 2;told b of m 2;told c of m 2;hand 100;";
        int pairs = 0;
        for (int seed = 0; seed < 60; seed++) {
            SpongeClerks x = Check.office(three);
            x.seed(seed);
            x.chance(1);
            int giver = Edge.draw(seed, 1, 3);
            int other = Edge.draw(seed, 2, 2);
            int taker = other < giver ? other : other + 1;
            for (int clerk = 0; clerk < 3; clerk++) {
                int want = clerk == giver ? 1 : clerk == taker ? 3 : 2;
                Edge.due("seed " + seed + ": CLERK " + clerk, x.drops(clerk, 0), want);
            }
            pairs |= 1 << 3 * giver + taker;
        }
        Edge.due("each pair was there", Integer.bitCount(pairs), 6);
    }

    private static void half() {
        Edge.sentence("half of each MATTER that he has (rounded down) goes over,");
        // From 42 on, the giver is the one whom the second DRAW tells.
        int giver = Edge.draw(42, 1, 2);
        String name = giver == 0 ? "a" : "b";
        for (int much = 0; much <= 9; much++) {
            SpongeClerks x = Check.office("seats 3;matter m;matter w;clerk a at 0 room 9;clerk b at 2 room 9;told " + name + " of m "
                    + much + ";told " + name + " of w " + (9 - much) + ";hand 1;");
            x.seed(42);
            Edge.due("hands", x.chance(1), 1);
            Edge.due("half of " + much, x.drops(1 - giver, 0), much / 2);
            Edge.due("the rest of " + much, x.drops(giver, 0), much - much / 2);
            Edge.due("half of " + (9 - much), x.drops(1 - giver, 1), (9 - much) / 2);
            Edge.due("KEPT", x.kept(0, 1), much / 2 + (9 - much) / 2);
        }
    }

    private static void asFarAsHeCan() {
        Edge.sentence("goes over, MATTER by MATTER, as far as the other one can hold it.");
        int giver = Edge.draw(42, 1, 2);
        String[] names = {"a", "b"};
        // The giver has 6 and 4: three and two go over, if the other one can hold them.
        for (int space = 0; space <= 7; space++) {
            SpongeClerks x = Check.office("seats 3;matter m;matter w;clerk a at 0 room 12;clerk b at 2 room 12;told " + names[giver]
                    + " of m 6;told " + names[giver] + " of w 4;told " + names[1 - giver] + " of w " + (12 - space) + ";hand 1;");
            x.seed(42);
            Edge.due("hands, space " + space, x.chance(1), 1);
            int m = Math.min(3, space);
            int w = Math.min(2, space - m);
            Edge.due("m, space " + space, x.drops(1 - giver, 0), m);
            Edge.due("w, space " + space, x.drops(1 - giver, 1), 12 - space + w);
            Edge.due("m stays, space " + space, x.drops(giver, 0), 6 - m);
            Edge.due("w stays, space " + space, x.drops(giver, 1), 4 - w);
            Edge.due("KEPT, space " + space, x.kept(0, 1), m + w);
            Edge.due("FULL, space " + space, x.kept(0, 2), space <= 5 ? 1 : 0);
        }
    }

    private static void undone() {
        Edge.sentence("The last 20 can be undone.");
        int[] manys = {0, 1, 19, 20, 21, 22, 40, 41, 45};
        for (int many : manys) {
            SpongeClerks x = Check.office(TWO);
            for (int k = 0; k < many; k++) {
                x.tell(0, 0, 1);
                Edge.due("has(9) behind " + (k + 1), x.has(9), Math.min(20, k + 1));
            }
            int left = Math.min(20, many);
            for (int k = 1; k <= left; k++) {
                Edge.due("undo " + k + " of " + many, x.undo(), true);
                Edge.due("drops", x.drops(0, 0), many - k);
                Edge.due("has(9)", x.has(9), left - k);
            }
            Edge.due("no more of " + many, x.undo(), false);
            Edge.due("drops", x.drops(0, 0), many - left);
        }
        // Undone ones make room for others.
        SpongeClerks x = Check.office(TWO);
        for (int k = 0; k < 21; k++) {
            x.tell(0, 0, 1);
        }
        for (int k = 0; k < 5; k++) {
            x.undo();
        }
        for (int k = 0; k < 7; k++) {
            x.tell(1, 0, 1);
        }
        Edge.due("15 and 7 are 20", x.has(9), 20);
        for (int k = 0; k < 20; k++) {
            Edge.due("undo", x.undo(), true);
        }
        Edge.due("abe had three then", x.drops(0, 0), 3);
        Edge.due("bo none", x.drops(1, 0), 0);
        Edge.due("no more", x.undo(), false);
    }

    private static void kept() {
        Edge.sentence("the last 40 are told.");
        int[] manys = {1, 39, 40, 41, 42, 79, 80, 81, 100};
        for (int many : manys) {
            for (int how = 0; how < 2; how++) {
                SpongeClerks x = Check.office("seats 2;matter m;clerk a at 0 room 99;clerk b at 1 room 99;told a of m 99;leaks (1-seat)*(1-day/50);");
                Edge.due("days", how == 0 ? x.days(many) : x.chance(many), how == 0 ? Math.min(50, many) : 0);
                int told = Math.min(40, many);
                Edge.due("has(7) of " + many, x.has(7), told);
                for (int k = 0; k < told; k += told > 1 ? told - 1 : 1) {
                    int day = many - told + k;
                    Edge.due("kept(" + k + ", 0) of " + many, x.kept(k, 0), day);
                    Edge.due("kept(" + k + ", 1) of " + many, x.kept(k, 1), day < 50 ? 1 : 0);
                }
                Edge.due("ahead of the oldest", x.kept(-1, 0), -1);
                Edge.due("behind the latest", x.kept(told, 0), -1);
            }
        }
        Edge.sentence("KEPT is each DAY: its number, how many drops went over (by leaks and hands), how many CLERKS are as FULL as their room behind it;");
        SpongeClerks x = Check.office("seats 3;matter m;clerk a at 0 room 3;clerk b at 1 room 2;clerk c at 2 room 9;told a of m 3;leaks (1-seat)*1;");
        int[][] rows = {{0, 1, 0}, {1, 1, 1}, {2, 0, 1}};
        x.days(3);
        for (int k = 0; k < 3; k++) {
            for (int what = 0; what < 3; what++) {
                Edge.due("kept(" + k + ", " + what + ")", x.kept(k, what), rows[k][what]);
            }
        }
    }

    private static void draws() {
        Edge.sentence("x (the seed) becomes (1103515245 x + 12345) mod 2 to the 31; floor(x / 64) mod m.");
        int[] seeds = {0, 1, 2, 63, 64, 65, 65535, 65536, 1073741823, 1073741824, 2147483646, 2147483647};
        for (int seed : seeds) {
            for (int k = 0; k < 12; k += 4) {
                SpongeClerks[] two = new SpongeClerks[2];
                for (int t = 0; t < 2; t++) {
                    two[t] = Check.office(TWO);
                    two[t].seed(seed);
                    if (k > 0) {
                        two[t].chance(k);
                    }
                }
                nextDraw("seed " + seed, two[0], two[1], seed, k);
            }
        }
    }

    private static void readAndRinsedAtMost() {
        Edge.sentence("READ and RINSED are 9999 of each MATTER at most (more are not counted).");
        int[] ahead = {9996, 9997, 9998, 9999};
        for (int there : ahead) {
            SpongeClerks x = Check.office(PAIR);
            Edge.put(x, 0, new int[][] {{0, 2, 1}, {1, 2, 1}}, new int[][] {{9999, there, there}, {0, 5, 6}});
            Edge.due("squeeze at " + there, x.squeeze(0), 3);
            Edge.due("READ", x.matter(0, 2), Math.min(9999, there + 2));
            Edge.due("READ of the other", x.matter(1, 2), 6);
            Edge.due("RINSED stays", x.matter(0, 3), there);
            Edge.due("rinse at " + there, x.rinse(1), 3);
            Edge.due("RINSED", x.matter(0, 3), Math.min(9999, there + 2));
            Edge.due("RINSED of the other", x.matter(1, 3), 7);
            Edge.due("the FLOOR stays", x.matter(0, 1), 9999);
            Edge.due("nothing was refused", x.status(2), 0);
        }
    }

    // ---- III

    private static void ahead() {
        Edge.sentence("AHEAD are DAYS as they come from now on without DRAWS (60 at most, not beyond DAY 999).");
        // Abe gives bo one drop on each DAY from the told one on.
        String text = TWO + "told a of m 70;hand 100;leaks (1-seat)*min(1,max(0,day-";
        SpongeClerks x = Check.office(text + "0+1));");
        int[] n = {-1, 0, 1, 59, 60, 61};
        int[] bo = {-1, 0, 1, 59, 60, -1};
        for (int k = 0; k < n.length; k++) {
            Edge.due("later " + n[k], x.later(1, 0, n[k]), bo[k]);
            Edge.due("knows " + n[k], x.knows(0, n[k]), bo[k] < 0 ? -1 : bo[k] == 0 ? 1 : 3);
        }
        int[][] rows = {{939, 60, 60}, {940, 59, 59}, {940, 60, -1}, {998, 0, 0}, {998, 1, 1}, {998, 2, -1}, {999, 0, 0}, {999, 1, -1}};
        for (int[] row : rows) {
            Edge.put(x, row[0], new int[][] {{0, 70}, {1, 0}}, new int[][] {{0, 0, 0}});
            Edge.due("DAY " + row[0] + " later " + row[1], x.later(1, 0, row[1]), row[2]);
            Edge.due("DAY " + row[0] + " knows " + row[1], x.knows(0, row[1]), row[2] < 0 ? -1 : row[2] == 0 ? 1 : 3);
        }
        Edge.due("the DAY stays", x.has(3), 999);
        // He hears of it behind DAY d, if that is one of the 60 next and not beyond 999.
        int[][] hears = {{0, 0, 1}, {0, 58, 59}, {0, 59, 60}, {0, 60, -1}, {900, 959, 60}, {900, 960, -1}, {939, 998, 60},
            {940, 998, 59}, {990, 998, 9}, {990, 999, -1}, {999, 999, -1}};
        for (int[] row : hears) {
            SpongeClerks y = Check.office(text + row[1] + "+1));");
            Edge.put(y, row[0], new int[][] {{0, 70}, {1, 0}}, new int[][] {{0, 0, 0}});
            Edge.due("DAY " + row[0] + ", from DAY " + row[1] + " on", y.hears(1, 0), row[2]);
            Edge.due("now", y.hears(0, 0), 0);
        }
        SpongeClerks y = Check.office(text + "0+1));");
        y.later(1, 0, 60);
        Edge.due("without DRAWS: the seed stays", y.chance(1), 1);
        Edge.due("as the first three DRAWS tell", Edge.draw(1, 1, 2), 1);
        Edge.due("bo was the giver of none, then got one", y.drops(1, 0), 1);
    }

    private static void knows() {
        Edge.sentence("One KNOWS a MATTER, if he has a drop of it.");
        for (int much = 0; much <= 2; much++) {
            SpongeClerks x = Check.office(TWO + "told b of m " + much + ";leaks 0;");
            Edge.due("matter(0, 4) of " + much, x.matter(0, 4), much > 0 ? 2 : 0);
            Edge.due("knows(0, 0) of " + much, x.knows(0, 0), much > 0 ? 2 : 0);
            Edge.due("knows(0, 1) of " + much, x.knows(0, 1), much > 0 ? 2 : 0);
            Edge.due("hears(1, 0) of " + much, x.hears(1, 0), much > 0 ? 0 : -1);
        }
        SpongeClerks x = Check.office(TWO + "told b of m 1;leaks 0;");
        x.squeeze(1);
        Edge.due("no more", x.matter(0, 4), 0);
    }

    private static void discreet() {
        Edge.sentence("by whose change now fewest KNOW a MATTER behind n DAYS, if fewer than without; of like ones the first pair.");
        // One drop leaks to the seat more: abe's comes to bo, both KNOW; alone none does.
        String leaks = "leaks min(1,drops-1);";
        String text = "clerk a at 0 room 9;clerk b at 1 room 9;told a of m 4;" + leaks;
        SpongeClerks x = Check.office("seats 2;matter m;" + text);
        Edge.due("no other seat: as many", x.discreet(0, 1, 0), -1);
        x = Check.office("seats 3;matter m;" + text);
        Edge.due("three seats", x.discreet(0, 1, 0), 1);
        Edge.due("three seats", x.discreet(0, 1, 1), 2);
        Edge.due("three seats", x.discreet(0, 1, 2), 1);
        x = Check.office("seats 4;matter m;" + text);
        Edge.due("four seats: 0 and 3 ahead of 1 and 2", x.discreet(0, 1, 0), 0);
        Edge.due("four seats: 0 and 3 ahead of 1 and 2", x.discreet(0, 1, 1), 3);
        x = Check.office("seats 9;matter m;clerk a at 7 room 9;clerk b at 8 room 9;told a of m 4;" + leaks);
        Edge.due("nine seats: 0 and 7 first", x.discreet(0, 1, 0), 0);
        Edge.due("nine seats: 0 and 7 first", x.discreet(0, 1, 1), 7);
        x.squeeze(0);
        Edge.due("none KNOWS it: none is better", x.discreet(0, 1, 0), -1);
        // Whoever it is that sits on the seat more, and whether the seat less or more is empty.
        x = Check.office("seats 9;matter m;clerk a at 8 room 9;clerk b at 7 room 9;told b of m 4;" + leaks);
        Edge.due("the second CLERK sits on 7: 0 and 7 first", x.discreet(0, 1, 0), 0);
        Edge.due("the second CLERK sits on 7: 0 and 7 first", x.discreet(0, 1, 1), 7);
        x = Check.office("seats 9;matter m;clerk a at 1 room 9;clerk b at 0 room 9;told b of m 4;" + leaks);
        Edge.due("the second CLERK sits on 0: 0 and 3 first", x.discreet(0, 1, 0), 0);
        Edge.due("the second CLERK sits on 0: 0 and 3 first", x.discreet(0, 1, 1), 3);
        // With a full bo on seat 1 nothing comes to him, with cy there one more KNOWS.
        x = Check.office("seats 3;matter m;matter w;clerk a at 0 room 9;clerk b at 1 room 3;clerk c at 2 room 9;told a of m 4;told b of w 3;"
                + "leaks (1-matter)*min(1,drops-1);");
        Edge.due("one KNOWS without: none is fewer", x.discreet(0, 1, 2), -1);
        x.change(1, 2);
        Edge.due("now two would", Integer.bitCount(x.knows(0, 1)), 2);
        Edge.due("bo back on seat 1", x.discreet(0, 1, 2), 1);
        Edge.due("less", x.discreet(0, 1, 0), 1);
        Edge.due("more", x.discreet(0, 1, 1), 2);
    }

    private static void pressed() {
        Edge.sentence("so that the told one does not KNOW a MATTER behind any of 1 .. n DAYS; of like ones the least bits.");
        // On DAY 2 bo gives abe his drop, on DAY 3 abe gives it back: behind 3 DAYS alone abe KNOWS.
        SpongeClerks x = Check.office(THREE + "told b of m 1;leaks max(0,1-max(day+seat-3,3-day-seat));");
        int[] has = {0, 0, 0, 1, 0, 0};
        for (int n = 0; n < has.length; n++) {
            Edge.due("abe behind " + n, x.later(0, 0, n), has[n]);
        }
        int[] n = {1, 2, 3, 4, 29, 30};
        for (int k = 0; k < n.length; k++) {
            Edge.due("abe, " + n[k] + " DAYS", x.pressed(0, 0, n[k]), k < 2 ? 0 : 2);
        }
        // Bo KNOWS it now, but no more behind the DAY on which it goes.
        x.days(2);
        Edge.due("now does not count", x.pressed(1, 0, 1), 0);
        Edge.due("but that it comes back does", x.pressed(1, 0, 2), -1);
        x = Check.office(THREE + "told a of m 8;told b of m 4;");
        Edge.due("of abe and bo, each enough, abe", x.pressed(2, 0, 1), 1);
        Edge.sentence("PRESSED are the fewest CLERKS (not a told one) to be squeezed now,");
        x = Check.office(THREE + "told a of m 4;told c of m 4;");
        Edge.due("both sides of bo", x.pressed(1, 0, 1), 5);
        x.rinse(0);
        Edge.due("one side of bo", x.pressed(1, 0, 1), 4);
        x.rinse(2);
        Edge.due("none", x.pressed(1, 0, 30), 0);
        x.tell(1, 0, 9);
        Edge.due("the told one would do, but may not be", x.pressed(1, 0, 1), -1);
        Edge.due("for another he may", x.pressed(0, 0, 1), 2);
    }

    private static void mops() {
        Edge.sentence("MOPS are the fewest CLERKS that can hold all drops on the FLOOR together, as they are; of like ones the least bits.");
        // Abe can hold 1, bo 2, cy 4, dan 2 more.
        String text = "seats 4;matter m;matter w;clerk a at 0 room 3;clerk b at 1 room 3;clerk c at 2 room 5;clerk d at 3 room 2;"
                + "told a of m 2;told b of w 1;told c of m 1;";
        int[] wants = {0, 1, 2, 4, 4, 5, 6, 7, 14, 15, -1, -1};
        int[][] seats = {{0, 2, 0}, {1, 0, 1}, {2, 1, 0}, {3, 0, 0}};
        for (int spilt = 0; spilt < wants.length; spilt++) {
            SpongeClerks x = Check.office(text);
            Edge.put(x, 0, seats, new int[][] {{spilt / 2, 0, 0}, {spilt - spilt / 2, 0, 0}});
            Edge.due(spilt + " on the FLOOR", x.mops(), wants[spilt]);
        }
        Edge.due("no CLERKS, none on the FLOOR", Check.office("seats 2;matter m;").mops(), 0);
        SpongeClerks x = Check.office("seats 2;matter m;");
        Edge.put(x, 0, new int[0][], new int[][] {{1, 0, 0}});
        Edge.due("no CLERKS, one on the FLOOR", x.mops(), -1);
    }

    private static void desks() {
        Edge.sentence("DESKS are a row of unlike CLERKS, one for each MATTER, each of whom has room for all drops of it that are in CLERKS (were he dry): of like ones the first row.");
        String text = "seats 3;matter m;matter w;clerk a at 0 room 4;clerk b at 1 room 6;clerk c at 2 room 6;told c of w 1;";
        int[][] rows = {{0, 0, 1}, {3, 0, 1}, {4, 0, 1}, {5, 1, 0}, {6, 1, 0}, {7, -1, -1}};
        for (int[] row : rows) {
            SpongeClerks x = Check.office(text + "told b of m " + Math.min(6, row[0]) + ";told c of m " + Math.max(0, row[0] - 6) + ";");
            Edge.due(row[0] + " of m: desks(0)", x.desks(0), row[1]);
            Edge.due(row[0] + " of m: desks(1)", x.desks(1), row[2]);
        }
        // Drops on the FLOOR, READ, RINSED are in no CLERK.
        SpongeClerks x = Check.office(text + "told b of m 4;");
        Edge.put(x, 0, new int[][] {{0, 0, 0}, {1, 4, 0}, {2, 0, 1}}, new int[][] {{9, 9, 9}, {0, 0, 0}});
        Edge.due("abe", x.desks(0), 0);
        String[] clerks = {"", "clerk a at 0 room 9;", "clerk a at 0 room 9;clerk b at 1 room 9;"};
        for (int many = 0; many < 3; many++) {
            Edge.due(many + " CLERKS for two", Check.office("seats 2;matter m;matter w;" + clerks[many]).desks(1), many == 2 ? 1 : -1);
            Edge.due(many + " CLERKS for one", Check.office("seats 2;matter m;" + clerks[many]).desks(0), many >= 1 ? 0 : -1);
        }
        Edge.due("no MATTERS", Check.office("seats 2;clerk a at 0 room 9;").desks(0), -1);
        x = Check.office("seats 5;matter m;matter n;matter o;matter p;clerk a at 0 room 9;clerk b at 1 room 2;clerk c at 2 room 9;clerk d at 3 room 3;"
                + "told a of m 2;told a of n 3;told a of o 1;told c of p 4;");
        // Abe for m, then n can be had by cy or dan: with cy none is left for p.
        int[] row = {0, 3, 1, 2};
        for (int matter = 0; matter < 4; matter++) {
            Edge.due("of four, desks(" + matter + ")", x.desks(matter), row[matter]);
        }
    }

    private static void power() {
        Edge.sentence("POWER of a CLERK is in how many sets of the others their rooms together are no more than half of all rooms, but more with his.");
        int[][] rooms = {{9}, {5, 5}, {5, 4}, {5, 6}, {2, 1, 1}, {3, 1, 1}, {2, 2, 1}, {4, 3, 2, 1}, {1, 1, 1, 1, 1, 1, 1}, {99, 98, 1}, {99, 98, 2}};
        int[][] wants = {{1}, {1, 1}, {2, 0}, {0, 2}, {3, 1, 1}, {4, 0, 0}, {2, 2, 2}, {5, 3, 3, 1}, {20, 20, 20, 20, 20, 20, 20}, {3, 1, 1}, {2, 2, 2}};
        for (int k = 0; k < rooms.length; k++) {
            StringBuilder text = new StringBuilder("seats 9;");
            for (int c = 0; c < rooms[k].length; c++) {
                text.append("clerk ").append((char) ('a' + c)).append(" at ").append(c).append(" room ").append(rooms[k][c]).append(';');
            }
            SpongeClerks x = Check.office(text.toString());
            for (int c = 0; c < rooms[k].length; c++) {
                Edge.due("of CLERK " + c + " of " + java.util.Arrays.toString(rooms[k]), x.clerk(c, 4), wants[k][c]);
            }
        }
    }

    /** From DAY d on bo gives each neighbour a drop. */
    private static String from(int day) {
        return THREE + "leaks min(1,max(0,day-" + day + "+1))*(seat-seat/2*2);";
    }

    private static void seenAndSources() {
        Edge.sentence("SEEN are rows of DAYS AHEAD (0 .. 30), CLERK, MATTER, drops:");
        // Told 3 drops on DAY 0, bo gives abe one on DAY 29: behind 30 DAYS it is seen.
        SpongeClerks x = Check.office(from(29));
        Edge.due("DAY 0", Check.see(x, 0, 0, 0, 0), 1);
        Edge.due("now abe has none: not abe", x.sources(0, 3), 6);
        Edge.due("DAY 29", Check.see(x, 29, 0, 0, 1), 1);
        Edge.due("not so early", x.sources(0, 3), 0);
        Edge.due("DAY 30", Check.see(x, 30, 0, 0, 1), 1);
        Edge.due("bo", x.sources(0, 3), 2);
        Edge.due("DAY 31", Check.see(x, 31, 0, 0, 1), -1);
        Edge.due("what was seen stays", x.has(8), 1);
        Edge.due("bo, as before", x.sources(0, 3), 2);
        Edge.sentence("told a number of drops of a MATTER now (as by the ACT, if that can be; 0: nothing is told), all is so.");
        x = Check.office(PAIR + "told a of m 6;");
        Check.see(x, 0, 0, 0, 6);
        Edge.due("0: nothing is told", x.sources(0, 0), 3);
        Edge.due("1: not abe", x.sources(0, 1), 2);
        Check.see(x, 0, 0, 0, 9);
        for (int much = 0; much <= 5; much++) {
            Edge.due("he holds no more than 3 of " + much, x.sources(0, much), much >= 3 ? 1 : 0);
        }
        // The FLOOR can take one more; abe can hold 3, bo 5.
        x = Check.office(PAIR);
        Edge.put(x, 0, new int[][] {{0, 6, 0}, {1, 0, 0}}, new int[][] {{9998, 0, 0}, {0, 0, 0}});
        int[] wants = {3, 3, 3, 3, 3, 2, 2, 0};
        for (int much = 0; much < wants.length; much++) {
            Edge.due("it can be by them for " + much, x.sources(0, much), wants[much]);
            Edge.due("of the other MATTER for " + much, x.sources(1, much), 3);
            Edge.due("tells of " + much, x.tells(0, much, 2) < 0, wants[much] == 0);
        }
        Edge.due("nothing was told", x.matter(0, 1), 9998);
        // All rows must be so.
        x = Check.office(THREE + "leaks 0;");
        Check.see(x, 0, 0, 0, 0, 0, 1, 0, 0);
        Edge.due("neither abe nor bo", x.sources(0, 1), 4);
        Check.see(x, 0, 0, 0, 0, 0, 1, 0, 0, 0, 2, 0, 0);
        Edge.due("nor cy", x.sources(0, 1), 0);
    }

    private static void telling() {
        Edge.sentence("TELLING is the DAY AHEAD (0 .. 30), the CLERK, by whose drops of that MATTER, whatever they are, the most SOURCES left are fewest; of like ones the first, DAY by DAY, CLERK by CLERK.");
        // Now abe is told from the two others, two are left; once bo leaks, abe has 3, 1, 0: one is left.
        int[][] rows = {{0, 1, 1}, {1, 2, 1}, {28, 29, 1}, {29, 30, 1}, {30, 0, 2}, {31, 0, 2}};
        for (int[] row : rows) {
            SpongeClerks x = Check.office(from(row[0]));
            Edge.due("from DAY " + row[0] + " on: DAY", x.tells(0, 3, 0), row[1]);
            Edge.due("from DAY " + row[0] + " on: CLERK", x.tells(0, 3, 1), 0);
            Edge.due("from DAY " + row[0] + " on: left", x.tells(0, 3, 2), row[2]);
        }
        // Up to DAY 999 alone: leaks from DAY 998 on are seen behind DAY 999, those from DAY 999 on never.
        int[][] late = {{990, 998, 9, 1}, {990, 999, 0, 2}, {998, 998, 1, 1}, {999, 998, 0, 2}, {969, 998, 30, 1}, {968, 998, 0, 2}};
        for (int[] row : late) {
            SpongeClerks x = Check.office(from(row[1]));
            Edge.put(x, row[0], new int[][] {{0, 0}, {1, 0}, {2, 0}}, new int[][] {{0, 0, 0}});
            Edge.due("DAY " + row[0] + ", from " + row[1] + " on: DAY", x.tells(0, 3, 0), row[2]);
            Edge.due("DAY " + row[0] + ", from " + row[1] + " on: left", x.tells(0, 3, 2), row[3]);
        }
        SpongeClerks x = Check.office(from(0));
        Check.see(x, 0, 0, 0, 0);
        Edge.due("bo or cy, now: CLERK", x.tells(0, 3, 1), 1);
        Edge.due("bo or cy, now: DAY", x.tells(0, 3, 0), 0);
        Edge.due("bo or cy, now: left", x.tells(0, 3, 2), 1);
        Edge.due("0 drops: all alike", x.tells(0, 0, 2), 3);
        Edge.due("0 drops: the first CLERK", x.tells(0, 0, 1), 0);
        Edge.due("0 drops: the first DAY", x.tells(0, 0, 0), 0);
        // By drops of that MATTER alone: those of w, which tell them apart, are not asked for.
        x = Check.office("seats 3;matter m;matter w;clerk a at 0 room 3;clerk b at 2 room 3;told a of m 3;told b of m 3;");
        Edge.due("both are full: alike", x.tells(1, 2, 2), 2);
    }

    /** Seven CLERKS on such seats, from the told DAY on leaking so many drops to each side. */
    private static String seven(int[] seats, int day, String leaks) {
        StringBuilder text = new StringBuilder("seats 9;matter m;");
        for (int k = 0; k < 7; k++) {
            text.append("clerk ").append((char) ('a' + k)).append(" at ").append(seats[k]).append(" room 99;");
        }
        return text + "leaks min(1,max(0,day-" + day + "+1))*(" + leaks + ");";
    }

    private static void tellingOfSeven() {
        String[] leaks = {"drops/4", "drops/2", "drops*2/3", "drops*4/5", "drops-1"};
        int[] days = {0, 28, 29, 30};
        int[][] seats = {{1, 7, 2, 6, 3, 5, 4}, {4, 3, 5, 2, 6, 1, 7}, {6, 5, 4, 3, 2, 1, 0}, {2, 3, 4, 5, 6, 7, 8}};
        int clerks = 0;
        for (int[] row : seats) {
            for (String sum : leaks) {
                for (int from : days) {
                    clerks |= 1 << tellingOf(seven(row, from, sum), from);
                }
            }
        }
        Edge.due("the first and the last CLERK were among them", clerks & 65, 65);
    }

    private static int tellingOf(String text, int from) {
        int[] best = bestOf(dropsBySource(text));
        SpongeClerks x = Check.office(text);
        for (int what = 0; what < 3; what++) {
            Edge.due("what " + what + " of " + text, x.tells(0, 99, what), best[what]);
        }
        Edge.due("six are left until it leaks: " + text, best[2] == 6, from == 30);
        Edge.due("the DAY is none ahead of the first leak: " + text, best[0] > from || from == 30, true);
        // Nothing is told: all seven are left, by the first DAY and CLERK.
        Edge.due("0 drops: left", x.tells(0, 0, 2), 7);
        Edge.due("0 drops: DAY", x.tells(0, 0, 0), 0);
        Edge.due("0 drops: CLERK", x.tells(0, 0, 1), 0);
        return best[1];
    }

    /** What each of seven has on each DAY, if one of them is told: looked at by tell() and later(). */
    private static int[][][] dropsBySource(String text) {
        int[][][] drops = new int[7][31][7];
        for (int source = 0; source < 7; source++) {
            SpongeClerks x = Check.office(text);
            x.tell(source, 0, 99);
            for (int n = 0; n <= 30; n++) {
                for (int c = 0; c < 7; c++) {
                    drops[source][n][c] = x.later(c, 0, n);
                }
            }
        }
        return drops;
    }

    /** DAY, CLERK, and how many SOURCES are left at the most. */
    private static int[] bestOf(int[][][] drops) {
        int[] best = {-1, -1, 8};
        for (int n = 0; n <= 30; n++) {
            for (int c = 0; c < 7; c++) {
                int left = 0;
                for (int one = 0; one < 7; one++) {
                    int alike = 0;
                    for (int other = 0; other < 7; other++) {
                        alike += drops[one][n][c] == drops[other][n][c] ? 1 : 0;
                    }
                    left = Math.max(left, alike);
                }
                if (left < best[2]) {
                    best = new int[] {n, c, left};
                }
            }
        }
        return best;
    }

    // ---- IV

    private static void questions() {
        Edge.sentence("most SUM, least SUM (the greatest, the least of all; 0 without CLERKS).");
        SpongeClerks x = Check.office("seats 2;matter m;");
        String[] none = {"most 5", "most 0-5", "least 5", "least 0-5", "total 5", "often all"};
        for (String text : none) {
            Edge.answer(x, text, 0);
        }
        Edge.answer(x, "first all", -1);
        Edge.answer(x, "last all", -1);
        x = Check.office("seats 2;matter m;clerk a at 1 room 9;");
        Edge.answer(x, "most 5", 5);
        Edge.answer(x, "most 0-5", -5);
        Edge.answer(x, "least 5", 5);
        Edge.answer(x, "least 0-5", -5);
        Edge.answer(x, "total 0-5", -5);
        x = Check.office("seats 3;clerk a at 2 room 9;clerk b at 0 room 8;clerk c at 1 room 7;");
        Edge.answer(x, "most seat", 2);
        Edge.answer(x, "least seat", 0);
        Edge.answer(x, "most 0-seat-1", -1);
        Edge.answer(x, "least 0-seat-1", -3);
        Edge.answer(x, "total 1000*1000", 3000000);
        Edge.answer(x, "total 0-1000*1000-1", -3000000);
        Edge.sentence("first TEST, last TEST (the first, the last CLERK for whom it holds), often TEST (for how many)");
        int[][] seats = {{0, 1, 1, 1}, {1, 1, 2, 2}, {2, 0, 2, 3}};
        for (int[] row : seats) {
            Edge.answer(x, "first seat<" + (row[0] + 1), row[1]);
            Edge.answer(x, "last seat<" + (row[0] + 1), row[2]);
            Edge.answer(x, "often seat<" + (row[0] + 1), row[3]);
        }
        Edge.answer(x, "first seat<0", -1);
        Edge.answer(x, "last seat>2", -1);
        Edge.answer(x, "often seat>2", 0);
        Edge.sentence("SUM SIGN SUM, SIGN < or > or = .");
        x = Check.office("seats 2;clerk a at 1 room 9;");
        int[] sides = {4, 5, 6};
        for (int side : sides) {
            Edge.answer(x, "often " + side + "<5", side < 5 ? 1 : 0);
            Edge.answer(x, "often " + side + ">5", side > 5 ? 1 : 0);
            Edge.answer(x, "often " + side + "=5", side == 5 ? 1 : 0);
            Edge.answer(x, "most min(" + side + ",5)", Math.min(side, 5));
            Edge.answer(x, "most max(" + side + ",5)", Math.max(side, 5));
        }
    }

    private static void mind() {
        Edge.sentence("the MATTER of which he has most drops, of like ones the first, -1 if he has none;");
        int[][] rows = {{0, 0, 0, 0, -1}, {1, 0, 0, 0, 0}, {0, 0, 0, 1, 3}, {1, 1, 1, 1, 0}, {1, 2, 2, 1, 1}, {2, 3, 2, 3, 1}, {2, 2, 3, 3, 2},
            {9, 10, 9, 11, 3}};
        for (int[] row : rows) {
            SpongeClerks x = Check.office("seats 2;matter m;matter n;matter o;matter p;clerk a at 1 room 99;told a of m " + row[0]
                    + ";told a of n " + row[1] + ";told a of o " + row[2] + ";told a of p " + row[3] + ";");
            Edge.answer(x, "most mind", row[4]);
            Edge.due("clerk(0, 3)", x.clerk(0, 3), row[4]);
            Edge.answer(x, "most drops mind", row[4] < 0 ? 0 : row[row[4]]);
        }
        Edge.answer(Check.office("seats 2;clerk a at 1 room 99;"), "most mind", -1);
    }

    private static void dropsAndOff() {
        Edge.sentence("his drops of the MATTER of that number, how far the CLERK of that number sits from him: 0 of those that there are not.)");
        SpongeClerks x = Check.office("seats 9;matter m;matter n;matter o;matter p;clerk a at 8 room 99;told a of m 4;told a of n 5;told a of o 6;told a of p 7;");
        int[] drops = {4, 5, 6, 7, 0, 0};
        for (int k = 0; k < drops.length; k++) {
            Edge.answer(x, "most drops " + k, drops[k]);
        }
        Edge.answer(x, "least drops (0-1)", 0);
        Edge.answer(x, "least drops (1000*1000)", 0);
        Edge.answer(x, "least drops (0-1000*1000)", 0);
        Edge.answer(x, "least drops 9999", 0);
        x = Check.office("seats 2;matter m;matter n;clerk a at 1 room 9;told a of n 3;");
        Edge.answer(x, "most drops 1", 3);
        Edge.answer(x, "most drops 2", 0);
        x = Check.office("seats 9;clerk a at 8 room 9;clerk b at 0 room 9;clerk c at 5 room 9;");
        int[] off = {8, 0, 5};
        for (int k = 0; k < off.length; k++) {
            Edge.answer(x, "total (off " + k + ")*(number/1*number-number*2+1)*(1-number/2)", k == 0 ? 0 : k == 1 ? 8 : 3);
            Edge.answer(x, "most off " + k, k == 0 ? 8 : k == 1 ? 8 : 5);
            Edge.answer(x, "least off " + k, 0);
        }
        Edge.answer(x, "most off 3", 0);
        Edge.answer(x, "most off (0-1)", 0);
        Edge.answer(x, "most off 9999", 0);
        x = Check.office("seats 9;clerk a at 8 room 9;");
        Edge.answer(x, "most off 0", 0);
        Edge.answer(x, "most off 1", 0);
    }

    private static void openInQuestions() {
        Edge.sentence("4 the 7th of ( [ not drops off that is open at once (not until its FACT, drops, off until its PART ends), at it.");
        SpongeClerks x = Check.office("seats 2;matter m;clerk a at 1 room 9;");
        for (int many = 5; many <= 7; many++) {
            String[] texts = {"total " + Edge.times("(", many) + "1" + Edge.times(")", many),
                "total " + Edge.times("drops ", many) + "1", "total " + Edge.times("off ", many) + "1",
                "often " + Edge.times("[", many) + "all" + Edge.times("]", many), "often " + Edge.times("not ", many) + "all",
                "total " + Edge.times("min(", many) + "1" + Edge.times(",1)", many)};
            int[] steps = {1, 6, 4, 1, 4, 4};
            for (int k = 0; k < texts.length; k++) {
                if (many <= 6) {
                    Edge.answer(x, texts[k], texts[k].startsWith("often") ? many % 2 == 0 || k == 3 ? 1 : 0 : k == 0 || k == 5 ? 1 : 0);
                } else {
                    Edge.questionFault(x, texts[k], 4, 6 + 6 * steps[k] + (k == 5 ? 3 : 0));
                }
            }
        }
        x = Check.office("seats 2;matter m;clerk a at 1 room 9;");
        String six = "drops off drops off drops off 0";
        Edge.answer(x, "total " + six + "+" + six + "*" + six, 0);
        Edge.answer(x, "total (((((drops 0+drops 0)))))", 0);
        Edge.questionFault(x, "total (((((drops drops 0)))))", 4, 17);
        Edge.questionFault(x, "total ((((((drops 0))))))", 4, 12);
        Edge.questionFault(x, "often not not not not not not drops 0=0", 4, 30);
        Edge.answer(x, "often not not not not not drops 0=off 0", 0);
        Edge.answer(x, "often not not not not not not 0=0 and drops 0=off 0", 1);
        Edge.questionFault(x, "often not not not not not drops off 0=0", 4, 32);
        Edge.sentence("1 as in I (an unknown word at its first byte; what stands behind it, too);");
        String[] texts = {"foo all", "often foo<1", "total foo", "total abcdefgh", "total 1 foo", "often all foo", "often all;", "total 1)", "total 1 2",
            "often all all", "total drops 0 0", "firsty all", "total space", "total matter", "often clerk=0", "total drops foo", "", " ", "often", "total "};
        int[] places = {0, 6, 6, 6, 8, 10, 9, 7, 8, 10, 14, 0, 6, 6, 6, 12, 0, 1, 5, 6};
        x = Check.office("seats 2;matter m;clerk a at 1 room 9;");
        for (int k = 0; k < texts.length; k++) {
            Edge.questionFault(x, texts[k], 1, places[k]);
        }
        Edge.answer(x, "total 1 \n ", 1);
    }

    private static void images() {
        Edge.sentence("DAY (two bytes, the higher first);");
        int[] days = {0, 1, 255, 256, 257, 511, 512, 998, 999};
        for (int day : days) {
            SpongeClerks x = Check.office(PAIR);
            Edge.due("DAY " + day, Edge.put(x, day, new int[][] {{0, 0, 0}, {1, 0, 0}}, new int[][] {{0, 0, 0}, {0, 0, 0}}), true);
            Edge.due("has(3)", x.has(3), day);
            x.image();
            Edge.due("the higher byte of " + day, x.octet(0), day / 256);
            Edge.due("the other byte of " + day, x.octet(1), day % 256);
        }
        Edge.sentence("for each MATTER on the FLOOR, READ, RINSED (two bytes each);");
        int[] pools = {0, 1, 255, 256, 9998, 9999};
        for (int much : pools) {
            SpongeClerks x = Check.office("seats 2;matter m;matter w;");
            Edge.due("on", Edge.put(x, 0, new int[0][], new int[][] {{much, 1, 2}, {3, 4, much}}), true);
            Edge.due("FLOOR", x.matter(0, 1), much);
            Edge.due("RINSED", x.matter(1, 3), much);
            Edge.due("bytes", x.image(), 15);
            int[] bytes = {0, 0, much / 256, much % 256, 0, 1, 0, 2, 0, 3, 0, 4, much / 256, much % 256};
            for (int k = 0; k < bytes.length; k++) {
                Edge.due("octet(" + k + ") for " + much, x.octet(k), bytes[k]);
            }
        }
        Edge.sentence("last a byte: all ahead from 191 on, c = (3 c + it) mod 251.");
        int[][] rows = {{0, 0}, {0, 1}, {0, 37}, {0, 38}, {0, 39}, {1, 0}, {3, 231}};
        for (int[] row : rows) {
            SpongeClerks x = Check.office("seats 2;");
            int c = (3 * ((3 * 191 + row[0]) % 251) + row[1]) % 251;
            Edge.due("on", Check.on(x, row[0], row[1], c), true);
            Edge.due("bytes", x.image(), 3);
            Edge.due("the last one", x.octet(2), c);
            Edge.due("one less", Check.on(x, row[0], row[1], (c + 250) % 251), false);
            Edge.due("one more", Check.on(x, row[0], row[1], (c + 1) % 251), false);
            if (c < 5) {
                Edge.due("251 more", Check.on(x, row[0], row[1], c + 251), false);
            }
        }
    }
}
