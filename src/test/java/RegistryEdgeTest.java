/** Part I of the Terms: each sentence that names a boundary case of a registry's text, at it and on both sides. */
public final class RegistryEdgeTest {
    private static final String B = "seats 3;matter m;clerk c at 0 room 9;";
    private static final String TWO = "seats 2;matter m;clerk a at 0 room 99;clerk b at 1 room 99;";
    private static final String[] OWN = {"seats", "matter", "clerk", "at", "room", "told", "of", "leaks", "shakes", "hand",
        "full", "seat", "day", "drops", "space", "off", "number", "mind", "or", "and", "not", "all", "min", "max"};

    private RegistryEdgeTest() {
    }

    public static void main(String[] args) {
        statements();
        firstStatement();
        seats();
        matters();
        clerks();
        seatOfClerk();
        roomOfClerk();
        toldDrops();
        oneEach();
        hand();
        digits();
        division();
        bounds();
        fromTheLeft();
        without();
        letters();
        ownWords();
        unlikeNames();
        namesAhead();
        blanks();
        sideBySide();
        tooSoon();
        wholeWords();
        numbersThatCannotBe();
        openAtOnce();
        tooMany();
        firstAlongTheText();
        behindJoints();
        halves();
        pairs();
        partsOfEach();
        truth();
        space();
        Check.finish("RegistryEdgeTest");
    }

    private static String hands(int statements) {
        return "seats 9;" + Edge.times("hand 7;", statements - 1);
    }

    private static void statements() {
        Edge.sentence("{ STATEMENT ; } (80 at most)");
        Edge.fault("", 1, 0);
        Edge.fits("seats 9;", 1);
        Edge.fits(hands(79), 79);
        Edge.fits(hands(80), 80);
        Edge.fits(hands(80) + " \n ", 80);
        Edge.fault(hands(81), 5, hands(80).length());
        Edge.fault(hands(90), 5, hands(80).length());
        Edge.sentence("an 81st STATEMENT (whatever stands there), at its first byte");
        for (int sign = 0; sign < 256; sign++) {
            if (sign != 10 && sign != 32) {
                Edge.fault(hands(80) + (char) sign, 5, hands(80).length());
                Edge.fault(hands(79) + (char) sign, 1, hands(79).length());
            }
        }
        Edge.fault(hands(80) + "\n  matter m;", 5, hands(80).length() + 3);
        Edge.fault(hands(80) + " seats 99999;", 5, hands(80).length() + 1);
        Edge.fault(hands(79) + "hand 7", 1, hands(79).length() + 6);
        Edge.fault(hands(79) + "hand 7 8;hand", 1, hands(79).length() + 7);
    }

    private static void firstStatement() {
        Edge.sentence("the first STATEMENT, and it alone");
        String[] others = {"matter m;", "clerk c at 0 room 9;", "told c of m 1;", "leaks 1;", "shakes all;", "hand 1;"};
        for (String other : others) {
            Edge.fault(other, 1, 0);
            Edge.fault(" " + other + "seats 3;", 1, 1);
        }
        for (int many = 2; many < others.length; many++) {
            String text = "seats 3;" + String.join("", java.util.Arrays.copyOf(others, many));
            Edge.fits(text, many + 1);
            Edge.fault(text + "seats 3;", 1, text.length());
        }
        Edge.fault("seats 3;seats 3;", 1, 8);
    }

    private static void seats() {
        Edge.sentence("seats N (2 .. 9 in a row, 0 and on;");
        Edge.fault("seats 0;", 2, 6);
        Edge.fault("seats 1;", 2, 6);
        for (int n = 2; n <= 9; n++) {
            SpongeClerks x = Check.office("seats " + n + ";clerk c at 0 room 1;clerk d at " + (n - 1) + " room 1;");
            Edge.due("has(0) of " + n, x.has(0), n);
            Edge.due("the first of " + n, x.seat(0), 0);
            Edge.due("the last of " + n, x.seat(n - 1), 1);
            Edge.due("one more than " + n, x.seat(n), -1);
            Edge.fault("seats " + n + ";clerk c at " + n + " room 1;", 2, 19);
        }
        Edge.fault("seats 10;", 2, 6);
        Edge.fault("seats 9999;", 2, 6);
        Edge.fits("seats 0009;", 1);
        Edge.fault("seats 0010;", 2, 6);
        Edge.fault("seats 0001;", 2, 6);
    }

    private static void matters() {
        Edge.sentence("matter NAME (4 MATTERS)");
        String text = "seats 2;";
        for (int many = 0; many < 5; many++) {
            SpongeClerks x = Check.office(text);
            Edge.due("has(1)", x.has(1), many);
            for (int k = -1; k <= 5; k++) {
                Edge.due("the first letter of MATTER " + k + " of " + many, x.letter(0, k, 0), k < 0 || k >= many ? -1 : k + 1);
            }
            if (many < 4) {
                text = text + "matter " + (char) ('a' + many) + ";";
            }
        }
        Edge.fault(text + "matter e;", 5, text.length());
        Edge.fault(text + " matter e;", 5, text.length() + 1);
        Edge.fits(text + "clerk e at 0 room 1;told e of d 1;", 7);
    }

    private static void clerks() {
        Edge.sentence("7 CLERKS)");
        String text = "seats 9;";
        for (int many = 0; many < 8; many++) {
            SpongeClerks x = Check.office(text);
            Edge.due("has(2)", x.has(2), many);
            for (int k = -1; k <= 8; k++) {
                Edge.due("the first letter of CLERK " + k + " of " + many, x.letter(1, k, 0), k < 0 || k >= many ? -1 : k + 1);
                Edge.due("his seat", x.clerk(k, 0), k < 0 || k >= many ? -1 : 8 - k);
            }
            if (many < 7) {
                text = text + "clerk " + (char) ('a' + many) + " at " + (8 - many) + " room 1;";
            }
        }
        Edge.fault(text + "clerk h at 0 room 1;", 5, text.length());
        Edge.fault(text + "\nclerk h at 0 room 1;", 5, text.length() + 1);
        Edge.fits(text + "matter h;told g of h 1;", 10);
    }

    private static void seatOfClerk() {
        Edge.sentence("(a seat on which none sits;");
        Edge.fits("seats 3;clerk a at 0 room 9;clerk b at 1 room 9;clerk c at 2 room 9;", 4);
        Edge.fault("seats 3;clerk a at 0 room 9;clerk b at 0 room 9;", 2, 39);
        Edge.fault("seats 3;clerk a at 2 room 9;clerk b at 1 room 9;clerk c at 2 room 9;", 2, 59);
        Edge.fault("seats 3;clerk a at 1 room 9;clerk b at 01 room 9;", 2, 39);
        Edge.fault("seats 3;clerk a at 3 room 9;", 2, 19);
        Edge.sentence("2 a number that can't be (a seat on which one sits; more drops than there is room for), at it");
        Edge.fault("seats 2;clerk a at 1 room 9;clerk b at  1  room 9;", 2, 40);
        Edge.fault("seats 2;matter m;clerk a at 1 room 9;told a of m\n10;", 2, 49);
    }

    private static void roomOfClerk() {
        Edge.sentence("1 .. 99 drops;");
        int[] rooms = {1, 2, 98, 99};
        for (int room : rooms) {
            SpongeClerks x = Check.office("seats 2;clerk c at 1 room " + room + ";");
            Edge.due("clerk(0, 1)", x.clerk(0, 1), room);
        }
        Edge.fault("seats 2;clerk c at 1 room 0;", 2, 26);
        Edge.fault("seats 2;clerk c at 1 room 0000;", 2, 26);
        Edge.fault("seats 2;clerk c at 1 room 100;", 2, 26);
        Edge.fault("seats 2;clerk c at 1 room 9999;", 2, 26);
        Edge.fits("seats 2;clerk c at 1 room 0099;", 2);
    }

    private static void toldDrops() {
        Edge.sentence("0 .. 99 drops: so many more than told ahead, no more than his room)");
        String text = "seats 2;matter m;matter w;clerk c at 0 room 99;clerk d at 1 room 7;";
        int[] fine = {0, 1, 98, 99};
        for (int much : fine) {
            SpongeClerks x = Check.office(text + "told c of m " + much + ";");
            Edge.due("drops(0, 0)", x.drops(0, 0), much);
            Edge.due("of the other MATTER", x.drops(0, 1), 0);
            Edge.due("of the other CLERK", x.drops(1, 0), 0);
        }
        Edge.fault(text + "told c of m 100;", 2, text.length() + 12);
        Edge.fits(text + "told d of m 7;", 6);
        Edge.fault(text + "told d of m 8;", 2, text.length() + 12);
        String six = text + "told d of m 6;";
        Edge.fits(six + "told d of m 0;", 7);
        Edge.fits(six + "told d of m 1;", 7);
        Edge.fault(six + "told d of m 2;", 2, six.length() + 12);
        Edge.fits(six + "told d of w 1;", 7);
        Edge.fault(six + "told d of w 2;", 2, six.length() + 12);
        Edge.fits(six + "told c of w 99;", 7);
        String seven = six + "told d of w 1;";
        Edge.fits(seven + "told d of w 0;told d of m 0;", 9);
        Edge.fault(seven + "told d of m 1;", 2, seven.length() + 12);
        SpongeClerks x = Check.office(six + "told d of m 0;told d of w 1;told c of w 50;told c of w 49;");
        Edge.due("6 and 0", x.drops(1, 0), 6);
        Edge.due("1", x.drops(1, 1), 1);
        Edge.due("50 and 49", x.drops(0, 1), 99);
    }

    private static void oneEach() {
        Edge.sentence("leaks SUM, shakes TEST (one each)");
        Edge.fits(B, 3);
        Edge.fits(B + "leaks 1;", 4);
        Edge.fits(B + "leaks 1;shakes all;", 5);
        Edge.fits(B + "shakes all;leaks 1;", 5);
        Edge.sentence("5 one too many of a kind (a second leaks, shakes, too)");
        Edge.fault(B + "leaks 1;leaks 1;", 5, B.length() + 8);
        Edge.fault(B + "leaks 1;hand 3; leaks", 5, B.length() + 16);
        Edge.fault(B + "shakes all;shakes all;", 5, B.length() + 11);
        Edge.fault(B + "shakes all;leaks 1;\nshakes", 5, B.length() + 20);
    }

    private static void hand() {
        Edge.sentence("hand N (0 .. 100; the last one counts, 0 without)");
        Edge.fits(B + "hand 0;", 4);
        Edge.fits(B + "hand 1;", 4);
        Edge.fits(B + "hand 99;", 4);
        Edge.fits(B + "hand 100;", 4);
        Edge.fault(B + "hand 101;", 2, B.length() + 5);
        Edge.fault(B + "hand 9999;", 2, B.length() + 5);
        // The first DRAW of 100 from 42 on is 0, from 2147483647 on 99.
        Edge.due("a DRAW of 0", Edge.draw(42, 0, 100), 0);
        Edge.due("a DRAW of 99", Edge.draw(2147483647, 0, 100), 99);
        Edge.due("without, 0 is not below 0", shaken("", 42), 0);
        Edge.due("hand 0", shaken("hand 0;", 42), 0);
        Edge.due("hand 1", shaken("hand 1;", 42), 1);
        Edge.due("hand 99", shaken("hand 99;", 2147483647), 0);
        Edge.due("hand 100", shaken("hand 100;", 2147483647), 1);
        Edge.due("the last is 0", shaken("hand 100;hand 50;hand 0;", 42), 0);
        Edge.due("the last is 1", shaken("hand 0;hand 100;hand 1;", 42), 1);
        Edge.due("the last is not enough", shaken("hand 100;hand 99;", 2147483647), 0);
    }

    private static int shaken(String hands, int seed) {
        SpongeClerks x = Check.office(TWO + hands);
        x.seed(seed);
        return x.chance(1);
    }

    private static void digits() {
        Edge.sentence("N (1 to 4 digits)");
        SpongeClerks x = Check.office("seats 2;clerk c at 0 room 9;");
        Edge.answer(x, "most 0", 0);
        Edge.answer(x, "most 9", 9);
        Edge.answer(x, "most 9999", 9999);
        Edge.answer(x, "most 0009", 9);
        Edge.answer(x, "most 0000", 0);
        Edge.sentence("where a number is asked, a 5th digit at itself");
        Edge.questionFault(x, "most 10000", 1, 9);
        Edge.questionFault(x, "most 00000", 1, 9);
        Edge.questionFault(x, "most 1234567", 1, 9);
        Edge.questionFault(x, "most 1+12345", 1, 11);
        Edge.fits("seats 0002;", 1);
        Edge.fault("seats 00002;", 1, 10);
        Edge.fault("seats 99999;", 1, 10);
        Edge.fits(B + "clerk d at 0001 room 0001;told c of m 0009;hand 0100;leaks 0001;shakes 0001<0002;", 8);
        Edge.fault(B + "clerk d at 00001 room 1;", 1, B.length() + 15);
        Edge.fault(B + "clerk d at 1 room 00001;", 1, B.length() + 22);
        Edge.fault(B + "told c of m 00001;", 1, B.length() + 16);
        Edge.fault(B + "hand 00001;", 1, B.length() + 9);
        Edge.fault(B + "leaks 00001;", 1, B.length() + 10);
        Edge.fault(B + "shakes 00001<1;", 1, B.length() + 11);
        Edge.fault(B + "shakes 1<00001;", 1, B.length() + 13);
        Edge.sentence("(words and numbers whole, at their first byte;");
        Edge.fault("seats 3 00001;", 1, 8);
        Edge.fault("00001 3;", 1, 0);
        Edge.fault(B + "clerk 00001 at 1 room 1;", 1, B.length() + 6);
        Edge.fault(B + "hand 1 00001;", 1, B.length() + 7);
    }

    private static void division() {
        Edge.sentence("/ gives the greatest whole number not above, by 0 it gives 0;");
        SpongeClerks x = Check.office("seats 2;clerk c at 0 room 9;");
        String[] texts = {"5/5", "4/5", "6/5", "9/5", "10/5", "0/5", "(0-1)/5", "(0-4)/5", "(0-5)/5", "(0-6)/5", "1/(0-5)",
            "5/(0-5)", "6/(0-5)", "(0-5)/(0-5)", "(0-4)/(0-5)", "(0-6)/(0-5)", "(0-1)/9999", "9999/1"};
        int[] wants = {1, 0, 1, 1, 2, 0, -1, -1, -1, -2, -1, -1, -2, 1, 0, 1, -1, 9999};
        for (int k = 0; k < texts.length; k++) {
            Edge.answer(x, "most " + texts[k], wants[k]);
        }
        Edge.answer(x, "most 5/0", 0);
        Edge.answer(x, "most (0-5)/0", 0);
        Edge.answer(x, "most 0/0", 0);
        Edge.answer(x, "most 7+5/(3-3)", 7);
        Edge.answer(x, "most 9999*9999/(0-1)", -1000000);
        String leaks = TWO + "told a of m 9;leaks ";
        Edge.due("in leaks, by 1", Check.office(leaks + "drops/(seat+1);").leak(0, 1, 0), 9);
        Edge.due("in leaks, by 0", Check.office(leaks + "drops/seat;").leak(0, 1, 0), 0);
        Edge.due("in leaks, by -1", Check.office(leaks + "10+drops/(seat-1);").leak(0, 1, 0), 1);
        Edge.due("in leaks, by -2", Check.office(leaks + "10+drops/(seat-2);").leak(0, 1, 0), 5);
        Edge.due("in shakes, by 0", shaken("hand 1;shakes 5/day=0;", 42), 1);
        Edge.due("in shakes, by 1", shaken("hand 1;shakes 5/(day+1)=0;", 42), 0);
    }

    private static void bounds() {
        Edge.sentence("each sum, difference, product above 10 to the 6 is that, below -10 to the 6 likewise.");
        SpongeClerks x = Check.office("seats 2;clerk c at 0 room 9;");
        // 999*1001 is 999999.
        String[] texts = {"999*1001", "999*1001+1", "999*1001+2", "999*1001+1-1", "999*1001+2-1", "1000*1000", "1000*1000-1",
            "1000*1001", "1000*1001-1", "9999*9999", "9999*9999*9999-1", "1-(0-999*1001)", "2-(0-999*1001)",
            "2-(0-999*1001)-1", "(9999*9999)*(9999*9999)-1", "999*1001+9999*9999-1"};
        int[] wants = {999999, 1000000, 1000000, 999999, 999999, 1000000, 999999, 1000000, 999999, 1000000, 999999, 1000000,
            1000000, 999999, 999999, 999999};
        for (int k = 0; k < texts.length; k++) {
            Edge.answer(x, "most " + texts[k], wants[k]);
        }
        x = Check.office("seats 2;clerk c at 0 room 9;");
        String[] below = {"0-999*1001", "0-999*1001-1", "0-999*1001-2", "0-999*1001-1+1", "0-999*1001-2+1",
            "(0-1000)*1000", "(0-1000)*1001", "(0-1000)*1001+1", "(0-999)*1001+(0-2)+1", "1000*(0-1001)+1",
            "(0-9999*9999)*(9999*9999)+1", "(0-9999*9999)*(0-9999*9999)-1", "0-9999*9999-9999*9999+1"};
        int[] due = {-999999, -1000000, -1000000, -999999, -999999, -1000000, -1000000, -999999, -999999, -999999, -999999,
            999999, -999999};
        for (int k = 0; k < below.length; k++) {
            Edge.answer(x, "most " + below[k], due[k]);
        }
        String leaks = TWO + "told a of m 9;leaks ";
        Edge.due("in leaks", Check.office(leaks + "1000*1001-999*1001;").leak(0, 1, 0), 1);
        Edge.due("in leaks, below", Check.office(leaks + "0-1000*1001-1+999*1001+3;").leak(0, 1, 0), 2);
        Edge.due("in shakes", shaken("hand 1;shakes 1000*1001=1000*1000;", 42), 1);
        Edge.due("in shakes", shaken("hand 1;shakes 999*1001=1000*1000;", 42), 0);
    }

    private static void fromTheLeft() {
        Edge.sentence("All from the left on;");
        SpongeClerks x = Check.office("seats 2;clerk c at 0 room 9;");
        Edge.answer(x, "most 9-4-3", 2);
        Edge.answer(x, "most 9-4+3", 8);
        Edge.answer(x, "most 9/2*2", 8);
        Edge.answer(x, "most 2*9/4", 4);
        Edge.answer(x, "most 40/4/5", 2);
        Edge.answer(x, "most 1+2*3-8/4", 5);
        Edge.answer(x, "often not all or all", 1);
        Edge.answer(x, "often not all and not all or all", 1);
        Edge.answer(x, "often all or not all and not all", 1);
    }

    private static void without() {
        Edge.sentence("Without: leaks is drops/4, shakes is all.");
        int[] wants = {0, 0, 0, 0, 1, 1, 1, 1, 2, 2};
        for (int much = 0; much < wants.length; much++) {
            SpongeClerks x = Check.office(TWO + "told a of m " + much + ";");
            Edge.due("leak of " + much, x.leak(0, 1, 0), wants[much]);
        }
        Edge.due("leak of 99", Check.office(TWO + "told a of m 99;").leak(0, 1, 0), 24);
        Edge.due("shakes", shaken("hand 1;", 42), 1);
        Edge.due("with one", shaken("hand 1;shakes not all;", 42), 0);
    }

    private static void letters() {
        Edge.sentence("NAMES: 1 to 6 letters,");
        Edge.fault("seats 2;matter ;", 1, 15);
        String name = "";
        for (int k = 0; k < 6; k++) {
            name = name + (char) ('z' - 5 * k);
            Edge.fits("seats 2;matter " + name + ";", 2);
            Edge.fits("seats 2;clerk " + name + " at 0 room 1;", 2);
        }
        Edge.sentence("a 7th letter at itself;");
        Edge.fault("seats 2;matter " + name + "a;", 1, 21);
        Edge.fault("seats 2;matter " + name + "abcdefghi;", 1, 21);
        Edge.fault("seats 2;clerk " + name + "a at 0 room 1;", 1, 20);
        Edge.fault(B + "told " + name + "a of m 1;", 1, B.length() + 11);
        Edge.fault(B + "told c of " + name + "a 1;", 1, B.length() + 16);
        Edge.fault(B + "told " + name + " of m 1;", 3, B.length() + 5);
        // An OWN WORD with a 7th letter is none any more: the 7th letter is what does not go on.
        Edge.fault(B + "matter matterx;", 1, B.length() + 13);
        Edge.fault(B + "matter matter;", 1, B.length() + 7);
        Edge.fault(B + "matter matte;matter mattez;matter matt5;", 1, B.length() + 38);
        Edge.sentence("1 the first byte with which no such text goes on");
        for (int sign = 0; sign < 256; sign++) {
            String text = "seats 2;matter " + (char) sign + ";";
            String behind = "seats 2;matter q" + (char) sign + ";";
            if (sign >= 'a' && sign <= 'z') {
                Edge.fits(text, 2);
                Edge.fits(behind, 2);
            } else if (sign == 10 || sign == 32) {
                Edge.fault(text, 1, 16);
                Edge.fits(behind, 2);
            } else {
                Edge.fault(text, 1, 15);
                Edge.fault(behind, 1, sign == ';' ? 17 : 16);
            }
        }
    }

    private static void ownWords() {
        Edge.sentence("no OWN WORD,");
        java.util.List<String> own = java.util.List.of(OWN);
        for (String word : OWN) {
            Edge.fault(B + "matter " + word + ";", 1, B.length() + 7);
            Edge.fault(B + "clerk " + word + " at 1 room 1;", 1, B.length() + 6);
            Edge.fault(B + "told " + word + " of m 1;", 1, B.length() + 5);
            Edge.fault(B + "told c of " + word + " 1;", 1, B.length() + 10);
            String[] near = {word + "x", word.substring(0, word.length() - 1), "x" + word, word.substring(1)};
            for (String other : near) {
                if (other.length() <= 6 && !own.contains(other)) {
                    String free = other.equals("m") ? "seats 2;" : B;
                    Edge.fits(free + "matter " + other + ";", free.equals(B) ? 4 : 2);
                }
            }
        }
        String[] asked = {"first", "last", "often", "total", "most", "least"};
        for (String word : asked) {
            Edge.fits(B + "clerk " + word + " at 1 room 2;told " + word + " of m 1;", 5);
            Edge.fits(B + "matter " + word + ";told c of " + word + " 1;", 5);
        }
    }

    private static void unlikeNames() {
        Edge.sentence("unlike ones (of all sorts),");
        Edge.fits("seats 3;matter a;matter aa;matter aaa;matter aaaaaa;clerk b at 0 room 1;clerk ab at 1 room 1;clerk ba at 2 room 1;", 8);
        Edge.sentence("3 a NAME to be given that is there already, one that is none of what is asked, at it;");
        Edge.fault(B + "matter m;", 3, B.length() + 7);
        Edge.fault(B + "matter c;", 3, B.length() + 7);
        Edge.fault(B + "clerk c at 1 room 1;", 3, B.length() + 6);
        Edge.fault(B + "clerk m at 1 room 1;", 3, B.length() + 6);
        Edge.fits(B + "matter mm;clerk cc at 1 room 1;", 5);
        Edge.fault(B + "told m of m 1;", 3, B.length() + 5);
        Edge.fault(B + "told c of c 1;", 3, B.length() + 10);
        Edge.fault(B + "told cc of m 1;", 3, B.length() + 5);
        Edge.fault(B + "told c of mm 1;", 3, B.length() + 10);
        Edge.fits(B + "told c of m 1;", 4);
        // As many MATTERS and CLERKS as there can be: the last and the first name of each sort.
        String all = "seats 9;matter m;matter n;matter o;matter p;";
        for (int k = 0; k < 7; k++) {
            all = all + "clerk " + (char) ('a' + k) + " at " + k + " room 9;";
        }
        Edge.fits(all + "told a of p 1;told g of m 1;", 14);
        String[] sorts = {"m", "p", "a", "g", "x"};
        for (int k = 0; k < sorts.length; k++) {
            String asClerk = "told " + sorts[k] + " of m 1;";
            String asMatter = "told a of " + sorts[k] + " 1;";
            if (k == 2 || k == 3) {
                Edge.fits(all + asClerk, 13);
            } else {
                Edge.fault(all + asClerk, 3, all.length() + 5);
            }
            if (k < 2) {
                Edge.fits(all + asMatter, 13);
            } else {
                Edge.fault(all + asMatter, 3, all.length() + 10);
            }
        }
    }

    private static void namesAhead() {
        Edge.sentence("told ahead of where they are asked.");
        Edge.fault("seats 2;matter m;told c of m 1;clerk c at 0 room 9;", 3, 22);
        Edge.fits("seats 2;matter m;clerk c at 0 room 9;told c of m 1;", 4);
        Edge.fault("seats 2;clerk c at 0 room 9;told c of m 1;matter m;", 3, 38);
        Edge.fits("seats 2;clerk c at 0 room 9;matter m;told c of m 1;", 4);
        // A name of the registry ahead is none of this one.
        SpongeClerks x = Check.office(B);
        Edge.due("a new registry", Check.registry(x, "seats 2;clerk m at 0 room 9;matter c;"), 3);
        Edge.due("names are free again", x.fault(0), 0);
        Edge.due("the old ones are gone", Check.registry(x, "seats 2;matter m;told c of m 1;"), -1);
        Edge.due("so FAULT 3", x.fault(0), 3);
    }

    private static void blanks() {
        Edge.sentence("Blanks (10, 32) are where one likes");
        for (int sign = 0; sign < 256; sign++) {
            String blank = String.valueOf((char) sign);
            boolean is = sign == 10 || sign == 32;
            if (is) {
                Edge.fits(blank + "seats 2;", 1);
                Edge.fits("seats" + blank + "2;", 1);
                Edge.fits("seats 2" + blank + ";", 1);
                Edge.fits("seats 2;" + blank, 1);
            } else {
                Edge.fault(blank + "seats 2;", 1, 0);
                Edge.fault("seats 2;" + blank, 1, 8);
            }
        }
        String spread = " seats 3 ; matter m ; clerk c at 0 room 9 ; told c of m 1 ; leaks ( 1 + min ( drops , 2 ) ) * 3 / 4 - 5 ; "
                + "shakes [ not off < 3 or all ] and full = 0 ; hand 9 ; ";
        Edge.fits(spread, 7);
        Edge.fits(spread.replace(' ', '\n'), 7);
        Edge.fits(spread.replace(" ", " \n \n"), 7);
    }

    private static void sideBySide() {
        Edge.sentence("(words and numbers side by side need one)");
        Edge.fits("seats 3;matter m;clerk c at 0 room 9;leaks(1)*2+max(drops,3);shakes[1<2]or[all]and(1)<3;", 5);
        Edge.fault("seats3;", 1, 5);
        Edge.fault(B + "clerk d at1 room 5;", 1, B.length() + 10);
        Edge.fault(B + "clerk d at 1room 5;", 1, B.length() + 12);
        Edge.fault(B + "clerk d at 1 room5;", 1, B.length() + 17);
        Edge.fault(B + "told c of m5;", 1, B.length() + 11);
        Edge.fault(B + "hand5;", 1, B.length() + 4);
        Edge.fault(B + "leaks1;", 1, B.length() + 5);
        Edge.fault(B + "shakes 1<2or all;", 1, B.length() + 10);
        Edge.fault(B + "shakes 1<2 or1<2;", 1, B.length() + 13);
        Edge.fault(B + "shakes not1<2;", 1, B.length() + 10);
        Edge.fault(B + "shakes notall;", 1, B.length() + 7);
        Edge.fault(B + "leaks min(1,2)or;", 1, B.length() + 14);
        Edge.fits(B + "shakes not\n1<2\nor\n1<2;", 4);
        // Whatever number or word it is: none stands for a sign.
        for (int number = 0; number < 130; number++) {
            Edge.fault("seats 2;matter m" + number, 1, 16);
            Edge.fault(B + "leaks drops" + number + " 1;", 1, B.length() + 11);
        }
        for (char one = 'a'; one <= 'z'; one++) {
            for (char two = 'a'; two <= 'z'; two++) {
                Edge.fault("seats 2" + one + two, 1, 7);
                Edge.fault(B + "leaks 1" + one + two + " 1;", 1, B.length() + 7);
            }
        }
    }

    /** Each text that is cut ahead of a word, a number or a sign ends too soon there, whatever blanks stand behind. */
    private static void tooSoon() {
        Edge.sentence("at the text's length, if it ends too soon)");
        String[] parts = {"seats", "3", ";", "matter", "m", ";", "clerk", "c", "at", "0", "room", "9", ";", "told", "c", "of", "m",
            "1", ";", "leaks", "min", "(", "drops", ",", "2", ")", "*", "(", "1", ")", ";", "shakes", "[", "not", "off", "<", "2",
            "or", "all", "]", ";", "hand", "7", ";"};
        StringBuilder text = new StringBuilder();
        int statements = 0;
        for (String part : parts) {
            text.append(part);
            statements += part.equals(";") ? 1 : 0;
            for (int blanks = 0; blanks < 3; blanks++) {
                String cut = text + Edge.times(" ", blanks);
                if (part.equals(";")) {
                    Edge.fits(cut, statements);
                } else {
                    Edge.fault(cut, 1, cut.length());
                }
            }
            text.append(' ');
        }
    }

    private static void wholeWords() {
        Edge.sentence("(words and numbers whole, at their first byte;");
        Edge.fault("seat 3;", 1, 0);
        Edge.fault("seat", 1, 0);
        Edge.fault("seatss 3;", 1, 0);
        Edge.fault("s", 1, 0);
        Edge.fault(B + "matte", 1, B.length());
        Edge.fault(B + "clerk d a 1 room 5;", 1, B.length() + 8);
        Edge.fault(B + "clerk d att 1 room 5;", 1, B.length() + 8);
        Edge.fault(B + "clerk d at 1 roomy 5;", 1, B.length() + 13);
        Edge.fault(B + "told c o m 5;", 1, B.length() + 7);
        Edge.fault(B + "told c off m 5;", 1, B.length() + 7);
        Edge.fault(B + "leaks drop;", 1, B.length() + 6);
        Edge.fault(B + "leaks dropss;", 1, B.length() + 6);
        Edge.fault(B + "leaks 1+abcdefghi;", 1, B.length() + 8);
        Edge.fault(B + "shakes al;", 1, B.length() + 7);
        Edge.fault(B + "shakes all an all;", 1, B.length() + 11);
        Edge.fault(B + "shakes all andd all;", 1, B.length() + 11);
        Edge.sentence("where a NAME is asked, an OWN WORD so,");
        Edge.fault(B + "matter  told;", 1, B.length() + 8);
        Edge.fault(B + "clerk at 1 room 5;", 1, B.length() + 6);
    }

    private static void numbersThatCannotBe() {
        Edge.sentence("2 a number that can't be");
        Edge.fault("seats 10", 2, 6);
        Edge.fault("seats 1", 2, 6);
        Edge.fault("seats 2", 1, 7);
        Edge.fault(B + "hand 101", 2, B.length() + 5);
        Edge.fault(B + "hand 100", 1, B.length() + 8);
        Edge.fault(B + "told c of m 10", 2, B.length() + 12);
        Edge.fault(B + "told c of m 9", 1, B.length() + 13);
        Edge.fault(B + "clerk d at 3", 2, B.length() + 11);
        Edge.fault(B + "clerk d at 2", 1, B.length() + 12);
        Edge.fault(B + "clerk d at 2 room 100", 2, B.length() + 18);
        Edge.fault(B + "clerk d at 2 room 99", 1, B.length() + 20);
        // In a SUM each number of up to four digits can be.
        Edge.fits(B + "leaks 9999;shakes 9999<0;", 5);
    }

    private static void openAtOnce() {
        Edge.sentence("4 the 7th of ( [ not that is open at once (not until its FACT ends), at it;");
        String leaks = B + "leaks ";
        String shakes = B + "shakes ";
        for (int many = 1; many <= 8; many++) {
            String sum = leaks + Edge.times("(", many) + "1" + Edge.times(")", many) + ";";
            String test = shakes + Edge.times("[", many) + "all" + Edge.times("]", many) + ";";
            String not = shakes + Edge.times("not ", many) + "all;";
            String pairs = leaks + Edge.times("max(2,", many) + "1" + Edge.times(")", many) + ";";
            if (many <= 6) {
                Edge.fits(sum, 4);
                Edge.fits(test, 4);
                Edge.fits(not, 4);
                Edge.fits(pairs, 4);
            } else {
                Edge.fault(sum, 4, leaks.length() + 6);
                Edge.fault(test, 4, shakes.length() + 6);
                Edge.fault(not, 4, shakes.length() + 24);
                Edge.fault(pairs, 4, leaks.length() + 39);
            }
        }
        // Closed ones count no more, whether they stood side by side or within one another.
        String six = "((((((1))))))";
        Edge.fits(leaks + six + "+" + six + "*" + six + ";", 4);
        Edge.fits(leaks + "(" + "(((((1)))))" + "+" + "(((((1)))))" + ");", 4);
        Edge.fault(leaks + "(" + "(((((1)))))" + "+" + "((((((1)))))));", 4, leaks.length() + 18);
        String nots = "not not not not not not all";
        Edge.fits(shakes + nots + " and " + nots + " or " + nots + ";", 4);
        Edge.fits(shakes + "not not not not not not 1<2 and not [[[[[all]]]]];", 4);
        Edge.fits(shakes + "not not not not not 1<(2) or " + six + "<" + six + ";", 4);
        Edge.fault(shakes + "not not not not not not 1<(2);", 4, shakes.length() + 26);
        Edge.fault(shakes + "not not not not not not (1)<2;", 4, shakes.length() + 24);
        Edge.fits(shakes + "[not [not [not all and not all]]];", 4);
        Edge.fits(shakes + "[not [not [not all]]and[not [[all]]]];", 4);
        Edge.fault(shakes + "[not [not [not [all]]]];", 4, shakes.length() + 15);
        Edge.fault(shakes + "[not [not [not 1<(2)]]];", 4, shakes.length() + 17);
    }

    private static void tooMany() {
        Edge.sentence("5 one too many of a kind (a second leaks, shakes, too)");
        String four = "seats 9;matter a;matter b;matter d;matter e;";
        Edge.fits(four, 5);
        Edge.fault(four + "matter f;", 5, four.length());
        Edge.fault(four + "matter", 5, four.length());
        Edge.fault(four + "matter a;", 5, four.length());
        Edge.fault(four + "matte f;", 1, four.length());
        String seven = "seats 9;";
        for (int k = 0; k < 7; k++) {
            seven = seven + "clerk " + (char) ('a' + k) + " at " + k + " room 5;";
        }
        Edge.fits(seven, 8);
        Edge.fault(seven + "clerk", 5, seven.length());
        Edge.fault(seven + "clerk a at 0 room 0;", 5, seven.length());
        // A told CLERK, a hand may be there as often as there is room in the text.
        Edge.fits(B + Edge.times("told c of m 0;", 40) + Edge.times("hand 5;", 37), 80);
    }

    private static void firstAlongTheText() {
        Edge.sentence("FAULTS, the first along the text:");
        Edge.fault("seats 10;matter seats;", 2, 6);
        Edge.fault("seats 9;matter seats;clerk a at 9 room 0;", 1, 15);
        Edge.fault("seats 9;matter a;clerk a at 9 room 0;", 3, 23);
        Edge.fault("seats 9;matter a;clerk b at 9 room 0;", 2, 28);
        Edge.fault("seats 9;matter a;clerk b at 8 room 0;", 2, 35);
        Edge.fault("seats 9;matter a;clerk b at 8 room 1;told c of b 9;", 3, 42);
        Edge.fault("seats 9;matter a;clerk b at 8 room 1;told b of b 9;", 3, 47);
        Edge.fault("seats 9;matter a;clerk b at 8 room 1;told b of a 9;", 2, 49);
        Edge.fault("seats 9;matter a;clerk b at 8 room 1;told b of a 1;leaks (((((((1+;", 4, 63);
        Edge.fault("seats 9;matter a;clerk b at 8 room 1;told b of a 1;leaks ((((((+(1;", 1, 63);
    }

    /** What joins two parts hides no FAULT of the one behind it, nor its place. */
    private static void behindJoints() {
        Edge.sentence("FAULTS, the first along the text:");
        String[] sums = {"", "1+", "1-", "1*", "1/", "1+2*", "1*2+"};
        String six = "((((((1))))))";
        for (String sum : sums) {
            String leaks = B + "leaks " + sum;
            Edge.fits(leaks + six + ";", 4);
            Edge.fault(leaks + "(" + six + ");", 4, leaks.length() + 6);
            Edge.fault(leaks + "12345;", 1, leaks.length() + 4);
            Edge.fault(leaks + " foo;", 1, leaks.length() + 1);
            Edge.fault(leaks + ";", 1, leaks.length());
            SpongeClerks x = Check.office(B);
            Edge.questionFault(x, "total " + sum + "(" + six + ")", 4, 12 + sum.length());
            Edge.questionFault(x, "total " + sum + "12345", 1, 10 + sum.length());
            Edge.questionFault(x, "total " + sum + " foo", 1, 7 + sum.length());
            Edge.questionFault(x, "total " + sum, 1, 6 + sum.length());
        }
        String[] tests = {"", "all or ", "all and ", "1<", "1>", "1=", "all or all and ", "all and all or ", "all and 1<2*"};
        for (String test : tests) {
            boolean half = test.matches(".*[<>=*]");
            String shakes = B + "shakes " + test;
            String end = half ? ";" : "<2;";
            Edge.fits(shakes + six + end, 4);
            Edge.fault(shakes + "(" + six + ")" + end, 4, shakes.length() + 6);
            Edge.fault(shakes + "12345" + end, 1, shakes.length() + 4);
            Edge.fault(shakes + " foo" + end, 1, shakes.length() + 1);
            Edge.fault(shakes + ";", 1, shakes.length());
            SpongeClerks x = Check.office(B);
            Edge.questionFault(x, "often " + test + "(" + six + ")<2", 4, 12 + test.length());
            Edge.questionFault(x, "often " + test + "12345<2", 1, 10 + test.length());
            Edge.questionFault(x, "often " + test + " foo<2", 1, 7 + test.length());
            Edge.questionFault(x, "often " + test, 1, 6 + test.length());
        }
    }

    private static void halves() {
        Edge.sentence("FACT: not FACT; [ TEST ] ; all; SUM SIGN SUM, SIGN < or > or = .");
        String[] tests = {"1", "full", "(1)", "full and all", "full or all", "not 1", "[1]", "1 all", "1+all", "1<2<3", "1<", "<1", "not", "[]",
            "[all", "[all)", "all]", "1<2]", "all all", "not and all", "[all]1", "1<all", "[1<2]<3"};
        int[] places = {1, 4, 3, 5, 5, 5, 2, 2, 2, 3, 2, 0, 3, 1, 4, 4, 3, 3, 4, 4, 5, 2, 5};
        for (int k = 0; k < tests.length; k++) {
            Edge.fault(B + "shakes " + tests[k] + ";", 1, B.length() + 7 + places[k]);
            Edge.questionFault(Check.office(B), "often " + tests[k], 1, 6 + places[k]);
        }
    }

    private static void pairs() {
        Edge.sentence("( SUM ) ; min ( SUM , SUM ) ; max ( SUM , SUM ) ;");
        String[] sums = {"min 1,2)", "min[1,2)", "min)1,2)", "max", "max(1)", "max(1 2)", "min(1,2,3)", "min(1,2", "min(1,)", "min(,1)", "min()", "()",
            "(1", "(1]", "1)", "(1,2)", "1,2", "min(1<2,1)", "max 1", "min,", "maxx(1,2)"};
        int[] places = {4, 3, 3, 3, 5, 6, 7, 7, 6, 4, 4, 1, 2, 2, 1, 2, 1, 5, 4, 3, 0};
        for (int k = 0; k < sums.length; k++) {
            Edge.fault(B + "leaks " + sums[k] + ";", 1, B.length() + 6 + places[k]);
            Edge.questionFault(Check.office(B), "total " + sums[k], 1, 6 + places[k]);
        }
    }

    private static void truth() {
        Edge.sentence("TEST: BOTH { or BOTH }. BOTH: FACT { and FACT }.");
        String[] facts = {"all", "not all", "1<2", "2<2", "3<2", "2>1", "2>2", "1>2", "2=2", "1=2", "not 1<2", "not 2>2", "not 2=2", "[not 1=2]"};
        boolean[] hold = {true, false, true, false, false, true, false, false, true, false, false, true, false, true};
        for (int a = 0; a < facts.length; a++) {
            SpongeClerks x = Check.office("seats 2;clerk c at 0 room 9;");
            Edge.answer(x, "often " + facts[a], hold[a] ? 1 : 0);
            Edge.answer(x, "often not " + facts[a], hold[a] ? 0 : 1);
            for (int b = 0; b < facts.length; b++) {
                Edge.answer(x, "often " + facts[a] + " and " + facts[b], hold[a] && hold[b] ? 1 : 0);
                Edge.answer(x, "often " + facts[a] + " or " + facts[b], hold[a] || hold[b] ? 1 : 0);
            }
        }
        for (int bits = 0; bits < 8; bits++) {
            boolean a = (bits & 1) != 0;
            boolean b = (bits & 2) != 0;
            boolean c = (bits & 4) != 0;
            String[] f = {a ? "1<2" : "2<1", b ? "1=1" : "1=2", c ? "2>1" : "1>2"};
            SpongeClerks x = Check.office("seats 2;clerk c at 0 room 9;");
            Edge.answer(x, "often " + f[0] + " or " + f[1] + " and " + f[2], a || b && c ? 1 : 0);
            Edge.answer(x, "often " + f[0] + " and " + f[1] + " or " + f[2], a && b || c ? 1 : 0);
            Edge.answer(x, "often [" + f[0] + " or " + f[1] + "] and " + f[2], (a || b) && c ? 1 : 0);
            Edge.answer(x, "often " + f[0] + " and [" + f[1] + " or " + f[2] + "]", a && (b || c) ? 1 : 0);
            Edge.answer(x, "often not " + f[0] + " and " + f[1] + " or " + f[2], !a && b || c ? 1 : 0);
            Edge.answer(x, "often not [" + f[0] + " and " + f[1] + " or " + f[2] + "]", a && b || c ? 0 : 1);
            Edge.due("in shakes", shaken("hand 1;shakes " + f[0] + " or " + f[1] + " and " + f[2] + ";", 42), a || b && c ? 1 : 0);
        }
    }

    private static void space() {
        Edge.sentence("how many more the one next to him can hold;");
        for (int full = 0; full <= 9; full++) {
            SpongeClerks x = Check.office("seats 2;matter m;matter w;clerk a at 0 room 99;clerk b at 1 room 9;told a of m 99;told b of w "
                    + full + ";leaks space/3;");
            Edge.due("bo has " + full, x.leak(0, 1, 0), (9 - full) / 3);
            Edge.due("abe can hold none", x.leak(1, 0, 1), 0);
        }
    }

    private static void partsOfEach() {
        Edge.sentence("in leaks: drops; space; matter; in shakes: off.");
        String[] both = {"full", "room", "seat", "day"};
        for (String part : both) {
            Edge.fits(B + "leaks " + part + ";shakes " + part + "<1;", 5);
        }
        String[] leaks = {"drops", "space", "matter"};
        for (String part : leaks) {
            Edge.fits(B + "leaks " + part + ";", 4);
            Edge.fault(B + "shakes " + part + "<1;", 1, B.length() + 7);
        }
        Edge.fits(B + "shakes off<1;", 4);
        Edge.fault(B + "leaks off;", 1, B.length() + 6);
        String[] questions = {"number", "mind"};
        for (String part : questions) {
            Edge.fault(B + "leaks " + part + ";", 1, B.length() + 6);
            Edge.fault(B + "shakes " + part + "<1;", 1, B.length() + 7);
        }
    }
}
