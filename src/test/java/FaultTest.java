/** The FAULTS of a registry's text, each with its place: promises 4 and 5 and part I of the terms. */
public final class FaultTest {
    private static final String B = "seats 3;matter m;clerk c at 0 room 9;";

    private FaultTest() {
    }

    public static void main(String[] args) {
        unfit();
        blanks();
        numbersAndNames();
        openAtOnce();
        tooMany();
        texts();
        Check.finish("FaultTest");
    }

    /** The text behind B, with the place counted from there on. */
    private static void behind(String text, int kind, int place) {
        Check.fault(B + text, kind, B.length() + place);
    }

    private static void fits(String text, int statements) {
        SpongeClerks x = new SpongeClerks();
        Check.due("registry " + text, Check.registry(x, text), statements);
        Check.due("fault(0) of " + text, x.fault(0), 0);
        Check.due("fault(1) of " + text, x.fault(1), -1);
    }

    private static void unfit() {
        Check.fault("", 1, 0);
        Check.fault("  \n", 1, 3);
        Check.fault(";", 1, 0);
        Check.fault("matter m;", 1, 0);
        Check.fault("seat 3;", 1, 0);
        Check.fault("seat", 1, 0);
        Check.fault("seatss 3;", 1, 0);
        Check.fault("Seats 3;", 1, 0);
        Check.fault("seats", 1, 5);
        Check.fault("seats  ", 1, 7);
        Check.fault("seats;", 1, 5);
        Check.fault("seats x;", 1, 6);
        Check.fault("seats 3", 1, 7);
        Check.fault("seats 3 3;", 1, 8);
        Check.fault("seats 3:", 1, 7);
        Check.fault("seats 3;;", 1, 8);
        Check.fault("seats 3; 5;", 1, 9);
        Check.fault("seats 3; seats 3;", 1, 9);
        Check.fault("seats 3;\tmatter m;", 1, 8);
        Check.fault("seats 3;foo;", 1, 8);
        Check.fault("seats 3;room 5;", 1, 8);
        Check.fault("seats 3;first;", 1, 8);
        behind("matter;", 1, 6);
        behind("matter 5;", 1, 7);
        behind("matter M;", 1, 7);
        behind("matter aB;", 1, 8);
        for (String own : Model.OWN) {
            behind("matter " + own + ";", 1, 7);
            behind("clerk " + own + " at 1 room 5;", 1, 6);
            behind("told " + own + " of m 5;", 1, 5);
            behind("told c of " + own + " 5;", 1, 10);
        }
        behind("matter numbers;", 1, 13);
        behind("matter abcdefgh;", 1, 13);
        behind("matter ab", 1, 9);
        behind("clerk d room 5;", 1, 8);
        behind("clerk d at x;", 1, 11);
        behind("clerk d at 1 9;", 1, 13);
        behind("clerk d at 1;", 1, 12);
        behind("clerk d at 1 room;", 1, 17);
        behind("clerk d at 1 room", 1, 17);
        behind("clerk d at 1 room 5 5;", 1, 20);
        behind("told 5;", 1, 5);
        behind("told of;", 1, 5);
        behind("told c m 5;", 1, 7);
        behind("told c of m;", 1, 11);
        behind("told c of m x;", 1, 12);
        behind("told abcdefg of m 5;", 1, 11);
        behind("hand;", 1, 4);
        behind("hand x;", 1, 5);
        behind("hand -1;", 1, 5);
        behind("leaks;", 1, 5);
        behind("leaks 1", 1, 7);
        behind("leaks 1+;", 1, 8);
        behind("leaks 1+", 1, 8);
        behind("leaks +1;", 1, 6);
        behind("leaks 1 2;", 1, 8);
        behind("leaks drops drops;", 1, 12);
        behind("leaks drops 1;", 1, 12);
        behind("leaks off;", 1, 6);
        behind("leaks number;", 1, 6);
        behind("leaks mind;", 1, 6);
        behind("leaks foo;", 1, 6);
        behind("leaks m;", 1, 6);
        behind("leaks all;", 1, 6);
        behind("leaks 1<2;", 1, 7);
        behind("leaks [1];", 1, 6);
        behind("leaks (1;", 1, 8);
        behind("leaks (1", 1, 8);
        behind("leaks ();", 1, 7);
        behind("leaks 1);", 1, 7);
        behind("leaks min 1;", 1, 10);
        behind("leaks min(1);", 1, 11);
        behind("leaks max(1,2;", 1, 13);
        behind("leaks max(1,2,3);", 1, 13);
        behind("leaks 1,2;", 1, 7);
        behind("shakes;", 1, 6);
        behind("shakes 1;", 1, 8);
        behind("shakes 1<;", 1, 9);
        behind("shakes 1<2<3;", 1, 10);
        behind("shakes 1<=2;", 1, 9);
        behind("shakes all<2;", 1, 10);
        behind("shakes drops<2;", 1, 7);
        behind("shakes space<2;", 1, 7);
        behind("shakes matter<2;", 1, 7);
        behind("shakes number<2;", 1, 7);
        behind("shakes (1<2);", 1, 9);
        behind("shakes [1<2;", 1, 11);
        behind("shakes [1]<2;", 1, 9);
        behind("shakes not;", 1, 10);
        behind("shakes all or;", 1, 13);
        behind("shakes all and or all;", 1, 15);
        behind("shakes all all;", 1, 11);
        behind("shakes off 1<2;", 1, 11);
        behind("shakes nota;", 1, 7);
    }

    private static void blanks() {
        Check.fault("seats3;", 1, 5);
        behind("clerk d at1 room 5;", 1, 10);
        behind("clerk d at 1room 5;", 1, 12);
        behind("clerk d at 1 room5;", 1, 17);
        behind("told c of m5;", 1, 11);
        behind("hand5;", 1, 4);
        behind("leaks5;", 1, 5);
        behind("shakes 1<2or all;", 1, 10);
        behind("shakes all or1<2;", 1, 13);
        behind("shakes not1<2;", 1, 10);
        behind("matterx;", 1, 0);
        fits(B + "leaks(1);shakes[all]or[all]and not[all];", 5);
        fits("\n seats\n3\n;\n matter\nm\n ; \n", 2);
        fits("seats 2;matter ab;matter abc;leaks\n1 + 2 * ( 3 ) - min ( 1 , 2 ) ;shakes off<1 or[full=room];", 5);
    }

    private static void numbersAndNames() {
        Check.fault("seats 1;", 2, 6);
        Check.fault("seats 0;", 2, 6);
        Check.fault("seats 10;", 2, 6);
        Check.fault("seats 10x", 2, 6);
        Check.fault("seats 00003;", 1, 10);
        Check.fault("seats 12345;", 1, 10);
        fits("seats 0003;", 1);
        fits("seats 2;", 1);
        fits("seats 9;", 1);
        behind("clerk d at 3 room 5;", 2, 11);
        behind("clerk d at 0 room 5;", 2, 11);
        behind("clerk d at 00 room 5;", 2, 11);
        behind("clerk d at 1 room 0;", 2, 18);
        behind("clerk d at 1 room 100;", 2, 18);
        behind("clerk d at 1 room 10000;", 1, 22);
        fits(B + "clerk d at 2 room 99;clerk e at 1 room 1;", 5);
        behind("told c of m 10;", 2, 12);
        behind("told c of m 9;told c of m 1;", 2, 26);
        behind("told c of m 0000;told c of m 00001;", 1, 33);
        behind("matter w;told c of m 5;told c of w 5;", 2, 35);
        fits(B + "told c of m 4;told c of m 5;told c of m 0;", 6);
        behind("hand 101;", 2, 5);
        behind("hand 9999;", 2, 5);
        behind("hand 10000;", 1, 9);
        fits(B + "hand 100;hand 0;", 5);
        behind("leaks 10000;", 1, 10);
        behind("leaks 1+00000;", 1, 12);
        behind("shakes 1<12345678;", 1, 13);
        fits(B + "leaks 9999;", 4);
        behind("matter m;", 3, 7);
        behind("matter c;", 3, 7);
        behind("clerk m at 1 room 5;", 3, 6);
        behind("clerk c at 1 room 5;", 3, 6);
        behind("told m of m 5;", 3, 5);
        behind("told c of c 5;", 3, 10);
        behind("told d of m 5;clerk d at 1 room 5;", 3, 5);
        behind("told c of w 5;matter w;", 3, 10);
        behind("told first of m 5;", 3, 5);
        fits("seats 2;matter first;clerk last at 0 room 5;told last of first 5;matter often;matter total;matter most;"
                + "clerk least at 1 room 5;", 8);
    }

    private static void openAtOnce() {
        fits(B + "leaks ((((((1))))));", 4);
        behind("leaks (((((((1)))))));", 4, 12);
        behind("leaks (((((((", 4, 12);
        behind("leaks ((((((1))))))+((((((1))))))*(((((((1;", 4, 40);
        behind("leaks min((((((1,", 1, 16);
        behind("leaks min(1,((((((1", 4, 17);
        behind("leaks min(((((((1", 4, 15);
        behind("leaks ((((((max(1,2", 4, 15);
        behind("leaks ((((((max 1", 1, 16);
        fits(B + "shakes not not not [[[all]]] and not not not [[[all]]];", 4);
        behind("shakes not not not [[[not all]]];", 4, 22);
        behind("shakes not not not [[[(1)<2]]];", 4, 22);
        behind("shakes not not not not not not not all;", 4, 31);
        fits(B + "shakes not not not not not not 1<2 or not [[[[[all]]]]];", 4);
        behind("shakes [[[[[[[all", 4, 13);
        behind("shakes not not not not not not 1<(2);", 4, 33);
        behind("shakes not not not not not 1<(2) and ((((((1))))))<1 and ((((((1+(", 4, 65);
    }

    private static void tooMany() {
        String matters = "seats 9;matter a;matter b;matter d;matter e;";
        fits(matters, 5);
        Check.fault(matters + " matter f;", 5, matters.length() + 1);
        Check.fault(matters + "matter", 5, matters.length());
        Check.fault(matters + "matter 5", 5, matters.length());
        Check.fault(matters + "matterx", 1, matters.length());
        String four = matters + "clerk c at 0 room 5;told c of ";
        Check.fault(four + "c 1;", 3, four.length());
        fits(four + "e 1;", 7);
        StringBuilder clerks = new StringBuilder("seats 9;");
        for (int k = 0; k < 7; k++) {
            clerks.append("clerk ").append((char) ('a' + k)).append(" at ").append(k).append(" room 5;");
        }
        fits(clerks.toString(), 8);
        Check.fault(clerks + "clerk h at 7 room 5;", 5, clerks.length());
        behind("leaks 1;leaks 1;", 5, 8);
        behind("shakes all;shakes all;", 5, 11);
        StringBuilder many = new StringBuilder("seats 9;");
        for (int k = 1; k < 80; k++) {
            many.append("hand ").append(k).append(';');
        }
        fits(many.toString(), 80);
        fits(many + " \n", 80);
        Check.fault(many + " hand 1;", 5, many.length() + 1);
        Check.fault(many + "!", 5, many.length());
        Check.fault(many + "\t", 5, many.length());
        Check.fault(many + ";", 5, many.length());
        Check.fault(many + "7", 5, many.length());
        Check.fault(many.substring(0, many.length() - 1), 1, many.length() - 1);
    }

    /** The last hand counts; a long text is read to its end. */
    private static void texts() {
        StringBuilder sum = new StringBuilder("seats 2;matter m;clerk a at 0 room 9;clerk b at 1 room 9;told a of m 9;leaks 0");
        while (sum.length() < 1597) {
            sum.append("+1");
        }
        sum.append(";");
        SpongeClerks x = Check.office(sum.toString());
        Check.due("a long SUM", x.leak(0, 1, 0), 9);
        Check.due("a long SUM is worked out", x.days(1), 18);
        String deep = "seats 2;matter m;clerk a at 0 room 9;clerk b at 1 room 9;told a of m 9;"
                + "leaks 1+1*(1+1*(1+1*(1+1*(1+1*(1+1*min(1+1,1+2*3))))));";
        Check.due("a deep SUM", Check.office(deep).leak(0, 1, 0), 8);
        String deeper = deep.replace("2*3", "(2*3)");
        Check.fault(deeper, 4, deeper.indexOf("(2*3)"));
    }
}
