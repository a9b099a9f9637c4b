import java.lang.management.ManagementFactory;

/**
 * All calls of a run live in one room: an object is small, and no call makes anything; and no call,
 * whatever it is asked, takes long or throws.
 */
public final class RoomTest {
    private static final int[] ODD = {Integer.MIN_VALUE, -1000000, -1, 0, 1, 2, 3, 4, 6, 7, 8, 9, 16, 30, 31, 40, 60, 61,
        99, 100, 101, 255, 999, 1600, 1000000, Integer.MAX_VALUE};

    private RoomTest() {
    }

    public static void main(String[] args) {
        oddArguments(new SpongeClerks());
        oddArguments(Check.office("seats 2;"));
        oddArguments(Check.office(busy()));
        allocations();
        Check.finish("RoomTest");
    }

    private static String busy() {
        StringBuilder text = new StringBuilder("seats 9;matter a;matter b;matter d;matter e;");
        String names = "fghijkl";
        for (int k = 0; k < 7; k++) {
            char name = names.charAt(k);
            text.append("clerk ").append(name).append(" at ").append(k).append(" room 99;");
            for (char matter : "abde".toCharArray()) {
                text.append("told ").append(name).append(" of ").append(matter).append(" 9;");
            }
        }
        text.append("hand 60;shakes off<4 or not [full<9];leaks drops/3+matter-1");
        while (text.length() < 1590) {
            text.append("+1-1");
        }
        return text.append(";").toString();
    }

    private static void oddArguments(SpongeClerks x) {
        int[] bytes = new int[1600];
        for (int k = 0; k < bytes.length; k++) {
            bytes[k] = k * 7 % 256;
        }
        for (int a : ODD) {
            for (int b : ODD) {
                x.fault(a);
                x.has(a);
                x.seat(a);
                x.clerk(a, b);
                x.drops(a, b);
                x.matter(a, b);
                x.kept(a, b);
                x.knows(a, b);
                x.hears(a, b);
                x.desks(a);
                x.sources(a, b);
                x.change(a, b);
                x.octet(a);
                x.status(a);
                for (int c : ODD) {
                    x.letter(a, b, c);
                    x.leak(a, b, c);
                }
            }
            x.later(a, 0, 1);
            x.later(0, a, 1);
            x.later(0, 0, a);
            x.pressed(a, 0, 1);
            x.pressed(0, a, 1);
            x.pressed(0, 0, a);
            x.discreet(a, 1, 0);
            x.discreet(0, a, 0);
            x.discreet(0, 1, a);
            x.tells(a, 1, 0);
            x.tells(0, a, 0);
            x.tells(0, 1, a);
            x.tell(a, 0, 1);
            x.tell(0, a, 1);
            x.tell(0, 0, a);
            x.squeeze(a);
            x.rinse(a);
            x.mop(a);
            x.days(a);
            x.seed(a);
            x.chance(a);
            x.undo();
            x.mops();
            x.image();
            x.feed(a, a, a, a, a);
            x.end(a);
            Check.tape(x, bytes);
            x.ask();
            Check.tape(x, bytes);
            x.see();
            Check.tape(x, bytes);
            x.on();
            Check.tape(x, bytes);
            x.registry();
        }
        Check.due("nothing was thrown", true, true);
    }

    private static long allocated() {
        return ((com.sun.management.ThreadMXBean) ManagementFactory.getThreadMXBean()).getCurrentThreadAllocatedBytes();
    }

    private static void allocations() {
        int[] bytes = Check.bytes(busy());
        int[][] fives = new int[80][];
        for (int k = 0; k < 80; k++) {
            fives[k] = Check.five(bytes, 20 * k);
        }
        allocated();
        long first = allocated();
        SpongeClerks x = new SpongeClerks();
        long made = allocated() - first;
        Check.due("a new object takes " + made + " bytes", made < 200000, true);
        run(x, fives, bytes.length);
        long second = allocated();
        for (int k = 0; k < 20; k++) {
            run(x, fives, bytes.length);
        }
        long calls = allocated() - second;
        Check.due("the calls made " + calls + " bytes", calls < 2000, true);
    }

    private static void run(SpongeClerks x, int[][] fives, int size) {
        for (int[] five : fives) {
            x.feed(five[0], five[1], five[2], five[3], five[4]);
        }
        x.end(size);
        x.registry();
        x.pressed(0, 0, 30);
        x.discreet(0, 30, 0);
        x.tells(0, 5, 0);
        x.sources(1, 9);
        x.hears(0, 1);
        x.later(1, 1, 60);
        x.days(50);
        x.chance(100);
        x.tell(0, 0, 99);
        x.squeeze(0);
        x.mop(0);
        x.change(0, 8);
        x.undo();
        x.desks(0);
        x.mops();
        x.clerk(0, 4);
        x.image();
        x.on();
        x.feed(0x6f667465, 0x6e20616c, 0x6c202020, 0x20202020, 0x20202020);
        x.ask();
        x.see();
    }
}
