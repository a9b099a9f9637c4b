import java.util.ArrayDeque;
import java.util.ArrayList;
import java.util.Arrays;
import java.util.Collections;
import java.util.Deque;
import java.util.HashMap;
import java.util.LinkedHashMap;
import java.util.List;
import java.util.Map;
import java.util.Set;

/**
 * The document told a second time, as plainly as the Java library allows and with none of the
 * program's code, so that random runs can be held against it.
 */
final class Model {
    static final Set<String> OWN = Set.of("seats", "matter", "clerk", "at", "room", "told", "of", "leaks",
            "shakes", "hand", "full", "seat", "day", "drops", "space", "off", "number", "mind", "or", "and",
            "not", "all", "min", "max");

    interface Sum {
        long of(Eye eye);
    }

    interface Fact {
        boolean of(Eye eye);
    }

    /** From where a SUM is looked at. */
    static final class Eye {
        final World world;
        final int clerk;
        final int other;
        final int matter;

        Eye(World world, int clerk, int other, int matter) {
            this.world = world;
            this.clerk = clerk;
            this.other = other;
            this.matter = matter;
        }
    }

    static final class Fault extends Exception {
        final int kind;
        final int place;

        Fault(int kind, int place) {
            super(null, null, false, false);
            this.kind = kind;
            this.place = place;
        }
    }

    static final class Registry {
        int statements;
        int seats;
        int hand;
        final List<String> matters = new ArrayList<>();
        final Map<String, int[]> clerks = new LinkedHashMap<>();
        final Map<String, int[]> told = new HashMap<>();
        Sum leaks;
        Fact shakes;

        int room(int clerk) {
            return new ArrayList<>(clerks.values()).get(clerk)[1];
        }

        String clerkName(int clerk) {
            return new ArrayList<>(clerks.keySet()).get(clerk);
        }
    }

    static final class World {
        int day;
        int[] seat;
        int[][] drops;
        int[][] pools;
        List<int[]> kept = new ArrayList<>();

        World copy() {
            World w = new World();
            w.day = day;
            w.seat = seat.clone();
            w.drops = deep(drops);
            w.pools = deep(pools);
            w.kept = new ArrayList<>(kept);
            return w;
        }

        private static int[][] deep(int[][] rows) {
            int[][] made = rows.clone();
            for (int k = 0; k < made.length; k++) {
                made[k] = rows[k].clone();
            }
            return made;
        }

        int full(int clerk) {
            return Arrays.stream(drops[clerk]).sum();
        }

        int on(int seatAsked) {
            for (int k = 0; k < seat.length; k++) {
                if (seat[k] == seatAsked) {
                    return k;
                }
            }
            return -1;
        }
    }

    final List<Integer> tape = new ArrayList<>();
    Registry reg;
    World now = empty();
    Deque<World> past = new ArrayDeque<>();
    List<int[]> seen = new ArrayList<>();
    List<Integer> picture = new ArrayList<>();
    int[] refused = new int[6];
    int faultKind;
    int faultPlace = -1;
    long seed = 1;

    static World empty() {
        World w = new World();
        w.seat = new int[0];
        w.drops = new int[0][];
        w.pools = new int[0][];
        return w;
    }

    int seats() {
        return reg == null ? 0 : reg.seats;
    }

    int matters() {
        return reg == null ? 0 : reg.matters.size();
    }

    int clerks() {
        return reg == null ? 0 : reg.clerks.size();
    }

    boolean isC(int c) {
        return c >= 0 && c < clerks();
    }

    boolean isM(int m) {
        return m >= 0 && m < matters();
    }

    int no(int what) {
        refused[what]++;
        return -1;
    }

    boolean not(int what) {
        refused[what]++;
        return false;
    }

    // ---- tape

    int feed(int... five) {
        if (tape.size() > 1580) {
            return no(0);
        }
        for (int n : five) {
            for (int s = 24; s >= 0; s -= 8) {
                tape.add(n >> s & 255);
            }
        }
        return tape.size();
    }

    boolean end(int n) {
        if (n < 0 || n > tape.size()) {
            return not(0);
        }
        tape.subList(n, tape.size()).clear();
        return true;
    }

    private String take() {
        StringBuilder text = new StringBuilder();
        for (int b : tape) {
            text.append((char) b);
        }
        tape.clear();
        return text.toString();
    }

    int registry() {
        faultKind = 0;
        faultPlace = -1;
        try {
            reg = new Grammar(take(), 0).registry();
        } catch (Fault f) {
            faultKind = f.kind;
            faultPlace = f.place;
            return no(1);
        }
        now = new World();
        now.seat = new int[clerks()];
        now.drops = new int[clerks()][];
        now.pools = new int[matters()][3];
        for (int c = 0; c < clerks(); c++) {
            now.seat[c] = new ArrayList<>(reg.clerks.values()).get(c)[0];
            now.drops[c] = Arrays.copyOf(reg.told.get(reg.clerkName(c)), matters());
        }
        past.clear();
        seen.clear();
        return reg.statements;
    }

    int fault(int what) {
        return what == 0 ? faultKind : what == 1 ? faultPlace : -1;
    }

    // ---- what there is

    int has(int what) {
        int held = 0;
        int brim = 0;
        for (int c = 0; c < clerks(); c++) {
            held += now.full(c);
            brim += now.full(c) == reg.room(c) ? 1 : 0;
        }
        int[] all = {seats(), matters(), clerks(), now.day, held, floor(), brim,
            Math.min(40, now.kept.size()), seen.size(), past.size()};
        return what >= 0 && what < all.length ? all[what] : -1;
    }

    int floor() {
        int sum = 0;
        for (int[] pool : now.pools) {
            sum += pool[0];
        }
        return sum;
    }

    int letter(int kind, int which, int k) {
        if (kind < 0 || kind > 1 || k < 0 || k > 5 || !(kind == 0 ? isM(which) : isC(which))) {
            return -1;
        }
        String name = kind == 0 ? reg.matters.get(which) : reg.clerkName(which);
        return k < name.length() ? name.charAt(k) - 96 : 0;
    }

    int seat(int seat) {
        return now.on(seat);
    }

    int clerk(int c, int what) {
        if (!isC(c) || what < 0 || what > 4) {
            return -1;
        }
        int[] all = {now.seat[c], reg.room(c), now.full(c), mind(now, c), power(c)};
        return all[what];
    }

    static int mind(World w, int c) {
        int best = -1;
        for (int m = w.drops[c].length - 1; m >= 0; m--) {
            if (w.drops[c][m] > 0 && (best < 0 || w.drops[c][m] >= w.drops[c][best])) {
                best = m;
            }
        }
        return best;
    }

    int power(int c) {
        double half = 0;
        for (int k = 0; k < clerks(); k++) {
            half += reg.room(k) / 2.0;
        }
        int count = 0;
        for (Set<Integer> set : setsWithout(c)) {
            int sum = set.stream().mapToInt(reg::room).sum();
            count += sum <= half && sum + reg.room(c) > half ? 1 : 0;
        }
        return count;
    }

    /** All sets of clerks without one, the fewest first, of like ones the least bits first. */
    List<Set<Integer>> setsWithout(int c) {
        List<Set<Integer>> all = new ArrayList<>();
        for (int bits = 0; bits < 1 << clerks(); bits++) {
            Set<Integer> set = new java.util.TreeSet<>();
            for (int k = 0; k < clerks(); k++) {
                if ((bits & 1 << k) != 0) {
                    set.add(k);
                }
            }
            if (!set.contains(c)) {
                all.add(set);
            }
        }
        all.sort((a, b) -> a.size() - b.size());
        return all;
    }

    static int bits(Iterable<Integer> set) {
        int bits = 0;
        for (int k : set) {
            bits |= 1 << k;
        }
        return bits;
    }

    int drops(int c, int m) {
        return isC(c) && isM(m) ? now.drops[c][m] : -1;
    }

    int knowers(World w, int m) {
        List<Integer> who = new ArrayList<>();
        for (int c = 0; c < clerks(); c++) {
            if (w.drops[c][m] > 0) {
                who.add(c);
            }
        }
        return bits(who);
    }

    int matter(int m, int what) {
        if (!isM(m) || what < 0 || what > 4) {
            return -1;
        }
        int held = 0;
        for (int[] row : now.drops) {
            held += row[m];
        }
        int[] all = {held, now.pools[m][0], now.pools[m][1], now.pools[m][2], knowers(now, m)};
        return all[what];
    }

    int wouldLeak(World w, int c, int o, int m) {
        long sum = reg.leaks.of(new Eye(w, c, o, m));
        return (int) Math.max(0, Math.min(sum, Math.min(w.drops[c][m], reg.room(o) - w.full(o))));
    }

    int leak(int c, int side, int m) {
        if (!isC(c) || !isM(m) || side < 0 || side > 1) {
            return -1;
        }
        int o = now.on(now.seat[c] + 2 * side - 1);
        return o < 0 ? -1 : wouldLeak(now, c, o, m);
    }

    int kept(int k, int what) {
        int told = Math.min(40, now.kept.size());
        if (k < 0 || k >= told || what < 0 || what > 2) {
            return -1;
        }
        return now.kept.get(now.kept.size() - told + k)[what];
    }

    // ---- days

    int day(World w) {
        int moved = 0;
        for (int s = 0; s < reg.seats; s++) {
            int c = w.on(s);
            if (c < 0) {
                continue;
            }
            for (int t : new int[] {s - 1, s + 1}) {
                int o = w.on(t);
                for (int m = 0; o >= 0 && m < matters(); m++) {
                    int n = wouldLeak(w, c, o, m);
                    w.drops[c][m] -= n;
                    w.drops[o][m] += n;
                    moved += n;
                }
            }
        }
        w.day++;
        return moved;
    }

    World ahead(World from, int n) {
        World w = from.copy();
        for (int k = 0; k < n; k++) {
            day(w);
        }
        return w;
    }

    boolean can(int n, int least, int most) {
        return reg != null && n >= least && n <= most && now.day + n <= 999;
    }

    int later(int c, int m, int n) {
        return isC(c) && isM(m) && can(n, 0, 60) ? ahead(now, n).drops[c][m] : -1;
    }

    int knows(int m, int n) {
        return isM(m) && can(n, 0, 60) ? knowers(ahead(now, n), m) : -1;
    }

    int hears(int c, int m) {
        for (int n = 0; isC(c) && isM(m) && can(n, 0, 60); n++) {
            if (later(c, m, n) > 0) {
                return n;
            }
        }
        return -1;
    }

    // ---- plans

    int discreet(int m, int n, int what) {
        if (!isM(m) || !can(n, 1, 30) || what < 0 || what > 2) {
            return -1;
        }
        int without = Integer.bitCount(knows(m, n));
        int[] best = {-1, -1, without};
        for (int a = 0; a < reg.seats; a++) {
            for (int b = a + 1; b < reg.seats; b++) {
                World w = now.copy();
                trade(w, a, b);
                int count = Integer.bitCount(knowers(ahead(w, n), m));
                if (count < best[2]) {
                    best = new int[] {a, b, count};
                }
            }
        }
        return best[0] < 0 ? -1 : best[what];
    }

    static void trade(World w, int a, int b) {
        for (int c = 0; c < w.seat.length; c++) {
            w.seat[c] = w.seat[c] == a ? b : w.seat[c] == b ? a : w.seat[c];
        }
    }

    int pressed(int c, int m, int n) {
        if (!isC(c) || !isM(m) || !can(n, 1, 30)) {
            return -1;
        }
        for (Set<Integer> set : setsWithout(c)) {
            World w = now.copy();
            for (int k : set) {
                Arrays.fill(w.drops[k], 0);
            }
            boolean dry = true;
            for (int k = 0; k < n; k++) {
                day(w);
                dry &= w.drops[c][m] == 0;
            }
            if (dry) {
                return bits(set);
            }
        }
        return -1;
    }

    int mops() {
        if (reg == null) {
            return -1;
        }
        for (Set<Integer> set : setsWithout(-1)) {
            if (set.stream().mapToInt(k -> reg.room(k) - now.full(k)).sum() >= floor()) {
                return bits(set);
            }
        }
        return -1;
    }

    int desks(int m) {
        if (!isM(m)) {
            return -1;
        }
        int many = 1;
        for (int k = 0; k < matters(); k++) {
            many *= clerks();
        }
        for (int row = 0; row < many; row++) {
            List<Integer> desks = new ArrayList<>();
            for (int rest = row, k = 0; k < matters(); k++, rest /= clerks()) {
                desks.add(0, rest % clerks());
            }
            boolean fits = desks.stream().distinct().count() == matters();
            for (int k = 0; k < matters(); k++) {
                fits &= reg.room(desks.get(k)) >= matter(k, 0);
            }
            if (fits) {
                return desks.get(m);
            }
        }
        return -1;
    }

    // ---- from whom

    int see() {
        List<int[]> rows = new ArrayList<>();
        boolean fits = tape.size() % 4 == 0 && tape.size() > 0 && tape.size() <= 64;
        for (int k = 0; fits && k < tape.size(); k += 4) {
            int[] row = {tape.get(k), tape.get(k + 1), tape.get(k + 2), tape.get(k + 3)};
            fits = row[0] <= 30 && isC(row[1]) && isM(row[2]) && row[3] <= 99;
            rows.add(row);
        }
        tape.clear();
        if (!fits) {
            return no(1);
        }
        seen = rows;
        return rows.size();
    }

    /** How many drops are spilt; -1, nothing done, when the FLOOR can't take them. */
    int pour(World w, int c, int m, int much) {
        int spilt = Math.max(0, w.full(c) + much - reg.room(c));
        if (w.pools[m][0] + spilt > 9999) {
            return -1;
        }
        w.pools[m][0] += spilt;
        w.drops[c][m] += much - spilt;
        return spilt;
    }

    World source(int c, int m, int much) {
        World w = now.copy();
        if (pour(w, c, m, much) < 0) {
            return null;
        }
        for (int[] row : seen) {
            if (now.day + row[0] > 999 || ahead(w, row[0]).drops[row[1]][row[2]] != row[3]) {
                return null;
            }
        }
        return w;
    }

    int sources(int m, int much) {
        if (!isM(m) || much < 0 || much > 99) {
            return -1;
        }
        List<Integer> who = new ArrayList<>();
        for (int c = 0; c < clerks(); c++) {
            if (source(c, m, much) != null) {
                who.add(c);
            }
        }
        return bits(who);
    }

    int tells(int m, int much, int what) {
        if (sources(m, much) <= 0 || what < 0 || what > 2) {
            return -1;
        }
        List<World> worlds = new ArrayList<>();
        for (int c = 0; c < clerks(); c++) {
            World w = source(c, m, much);
            if (w != null) {
                worlds.add(w);
            }
        }
        int[] best = {-1, -1, 99};
        for (int d = 0; d <= 30 && now.day + d <= 999; d++) {
            for (int c = 0; c < clerks(); c++) {
                List<Integer> drops = new ArrayList<>();
                for (World w : worlds) {
                    drops.add(w.drops[c][m]);
                }
                int most = 0;
                for (int v : drops) {
                    most = Math.max(most, Collections.frequency(drops, v));
                }
                if (most < best[2]) {
                    best = new int[] {d, c, most};
                }
            }
            for (World w : worlds) {
                day(w);
            }
        }
        return best[what];
    }

    // ---- acts

    private void remember() {
        past.addLast(now.copy());
        if (past.size() > 20) {
            past.removeFirst();
        }
    }

    int tell(int c, int m, int much) {
        if (!isC(c) || !isM(m) || much < 1 || much > 99 || pour(now.copy(), c, m, much) < 0) {
            return no(2);
        }
        remember();
        return pour(now, c, m, much);
    }

    int wring(int c, int pool) {
        if (!isC(c) || now.full(c) == 0) {
            return no(2);
        }
        remember();
        int much = now.full(c);
        for (int m = 0; m < matters(); m++) {
            now.pools[m][pool] = Math.min(9999, now.pools[m][pool] + now.drops[c][m]);
            now.drops[c][m] = 0;
        }
        return much;
    }

    int mop(int c) {
        World w = now.copy();
        int taken = 0;
        for (int m = 0; isC(c) && m < matters(); m++) {
            int n = Math.min(w.pools[m][0], reg.room(c) - w.full(c));
            w.pools[m][0] -= n;
            w.drops[c][m] += n;
            taken += n;
        }
        if (taken == 0) {
            return no(2);
        }
        remember();
        now = w;
        return taken;
    }

    boolean change(int a, int b) {
        boolean there = a >= 0 && b >= 0 && a < seats() && b < seats() && a != b;
        if (!there || now.on(a) < 0 && now.on(b) < 0) {
            return not(2);
        }
        remember();
        trade(now, a, b);
        return true;
    }

    private int keptDay(int byHand) {
        int number = now.day;
        int moved = day(now);
        now.kept.add(new int[] {number, moved + byHand, has(6)});
        return moved;
    }

    int days(int n) {
        if (!can(n, 1, 100)) {
            return no(3);
        }
        remember();
        int moved = 0;
        for (int k = 0; k < n; k++) {
            moved += keptDay(0);
        }
        return moved;
    }

    int draw(int m) {
        seed = (1103515245L * seed + 12345) % (1L << 31);
        return (int) (seed / 64 % m);
    }

    int chance(int n) {
        if (!can(n, 1, 100)) {
            return no(3);
        }
        remember();
        int shaken = 0;
        for (int k = 0; k < n; k++) {
            int byHand = 0;
            if (draw(100) < reg.hand && clerks() >= 2) {
                List<Integer> all = new ArrayList<>();
                for (int c = 0; c < clerks(); c++) {
                    all.add(c);
                }
                int one = all.remove(draw(clerks()));
                int two = all.get(draw(all.size()));
                if (reg.shakes.of(new Eye(now, one, two, 0))) {
                    shaken++;
                    for (int m = 0; m < matters(); m++) {
                        int go = Math.min(now.drops[one][m] / 2, reg.room(two) - now.full(two));
                        now.drops[one][m] -= go;
                        now.drops[two][m] += go;
                        byHand += go;
                    }
                }
            }
            keptDay(byHand);
        }
        return shaken;
    }

    boolean undo() {
        if (past.isEmpty()) {
            return not(4);
        }
        now = past.removeLast();
        return true;
    }

    boolean seed(int s) {
        if (s < 0) {
            return not(5);
        }
        seed = s;
        return true;
    }

    // ---- questions, images

    long ask() {
        String text = take();
        if (reg == null) {
            return -1000000000000000L;
        }
        faultKind = 0;
        faultPlace = -1;
        try {
            return new Grammar(text, 2).question(now);
        } catch (Fault f) {
            faultKind = f.kind;
            faultPlace = f.place;
            return -1000000000000000L;
        }
    }

    static int check(List<Integer> bytes) {
        int c = 191;
        for (int b : bytes) {
            c = (3 * c + b) % 251;
        }
        return c;
    }

    int image() {
        picture.clear();
        picture.addAll(List.of(now.day / 256, now.day % 256));
        for (int c = 0; c < clerks(); c++) {
            picture.add(now.seat[c]);
            for (int n : now.drops[c]) {
                picture.add(n);
            }
        }
        for (int[] pool : now.pools) {
            for (int n : pool) {
                picture.addAll(List.of(n / 256, n % 256));
            }
        }
        picture.add(check(picture));
        return picture.size();
    }

    int octet(int k) {
        return k >= 0 && k < picture.size() ? picture.get(k) : -1;
    }

    boolean on() {
        List<Integer> bytes = new ArrayList<>(tape);
        tape.clear();
        int size = 3 + clerks() * (1 + matters()) + 6 * matters();
        if (reg == null || bytes.size() != size || check(bytes.subList(0, size - 1)) != bytes.get(size - 1)) {
            return not(5);
        }
        World w = new World();
        w.day = bytes.get(0) * 256 + bytes.get(1);
        w.seat = new int[clerks()];
        w.drops = new int[clerks()][matters()];
        w.pools = new int[matters()][3];
        int k = 2;
        boolean fits = w.day <= 999;
        for (int c = 0; c < clerks(); c++) {
            w.seat[c] = bytes.get(k++);
            for (int m = 0; m < matters(); m++) {
                w.drops[c][m] = bytes.get(k++);
            }
            fits &= w.seat[c] < reg.seats && w.full(c) <= reg.room(c);
        }
        for (int m = 0; m < matters(); m++) {
            for (int p = 0; p < 3; p++, k += 2) {
                w.pools[m][p] = bytes.get(k) * 256 + bytes.get(k + 1);
                fits &= w.pools[m][p] <= 9999;
            }
        }
        fits &= Arrays.stream(w.seat).distinct().count() == clerks();
        if (!fits) {
            return not(5);
        }
        now = w;
        past.clear();
        return true;
    }

    int status(int what) {
        return what >= 0 && what < 6 ? refused[what] : -1;
    }

    // ---- the language

    /** Reads sign by sign; what is open is a stack of the signs and words themselves. */
    final class Grammar {
        final String text;
        final int tongue;
        final Deque<String> open = new ArrayDeque<>();
        int p;
        Registry made;

        Grammar(String text, int tongue) {
            this.text = text;
            this.tongue = tongue;
        }

        Grammar(String text, int tongue, int from, Registry made) {
            this(text, tongue);
            this.p = from;
            this.made = made;
        }

        void blanks() {
            while (p < text.length() && (text.charAt(p) == ' ' || text.charAt(p) == '\n')) {
                p++;
            }
        }

        boolean low(int k) {
            return k >= 0 && k < text.length() && text.charAt(k) >= 'a' && text.charAt(k) <= 'z';
        }

        boolean dig(int k) {
            return k >= 0 && k < text.length() && text.charAt(k) >= '0' && text.charAt(k) <= '9';
        }

        /** The word or number or sign that stands next; "" at the end. */
        String peek() {
            blanks();
            int q = p;
            while (low(p) && low(q) || dig(p) && dig(q)) {
                q++;
            }
            return text.substring(p, q == p ? Math.min(text.length(), p + 1) : q);
        }

        void bad() throws Fault {
            blanks();
            throw new Fault(1, p);
        }

        void glue() throws Fault {
            if (low(p) && dig(p - 1) || dig(p) && low(p - 1)) {
                bad();
            }
        }

        boolean next(String what) throws Fault {
            if (!peek().equals(what)) {
                return false;
            }
            glue();
            p += what.length();
            return true;
        }

        void need(String what) throws Fault {
            if (!next(what)) {
                bad();
            }
        }

        int number() throws Fault {
            String digits = peek();
            if (!dig(p)) {
                bad();
            }
            glue();
            if (digits.length() > 4) {
                throw new Fault(1, p + 4);
            }
            p += digits.length();
            return Integer.parseInt(digits);
        }

        int number(int least, int most) throws Fault {
            blanks();
            int at = p;
            int n = number();
            if (n < least || n > most) {
                throw new Fault(2, at);
            }
            return n;
        }

        String name() throws Fault {
            String word = peek();
            if (!low(p) || OWN.contains(word)) {
                bad();
            }
            glue();
            if (word.length() > 6) {
                throw new Fault(1, p + 6);
            }
            p += word.length();
            return word;
        }

        String fresh() throws Fault {
            String name = name();
            if (made.matters.contains(name) || made.clerks.containsKey(name)) {
                throw new Fault(3, p - name.length());
            }
            return name;
        }

        Registry registry() throws Fault {
            made = new Registry();
            need("seats");
            made.seats = number(2, 9);
            need(";");
            made.statements = 1;
            while (!peek().isEmpty()) {
                if (made.statements == 80) {
                    throw new Fault(5, p);
                }
                statement();
                need(";");
                made.statements++;
            }
            if (made.leaks == null) {
                made.leaks = e -> Math.floorDiv(e.world.drops[e.clerk][e.matter], 4);
            }
            if (made.shakes == null) {
                made.shakes = e -> true;
            }
            return made;
        }

        void statement() throws Fault {
            int at = p;
            if (next("matter")) {
                many(made.matters.size() == 4, at);
                made.matters.add(fresh());
            } else if (next("clerk")) {
                many(made.clerks.size() == 7, at);
                String name = fresh();
                need("at");
                int seat = number(0, made.seats - 1);
                for (int[] row : made.clerks.values()) {
                    if (row[0] == seat) {
                        while (dig(p - 1)) {
                            p--;
                        }
                        throw new Fault(2, p);
                    }
                }
                need("room");
                made.clerks.put(name, new int[] {seat, number(1, 99)});
                made.told.put(name, new int[4]);
            } else if (next("told")) {
                told();
            } else if (next("hand")) {
                made.hand = number(0, 100);
            } else if (next("leaks")) {
                many(made.leaks != null, at);
                Grammar g = new Grammar(text, 0, p, made);
                made.leaks = g.sum();
                p = g.p;
            } else if (next("shakes")) {
                many(made.shakes != null, at);
                Grammar g = new Grammar(text, 1, p, made);
                made.shakes = g.test();
                p = g.p;
            } else {
                bad();
            }
        }

        void many(boolean tooMany, int at) throws Fault {
            if (tooMany) {
                throw new Fault(5, at);
            }
        }

        void told() throws Fault {
            String clerk = name();
            if (!made.clerks.containsKey(clerk)) {
                throw new Fault(3, p - clerk.length());
            }
            need("of");
            String matter = name();
            if (!made.matters.contains(matter)) {
                throw new Fault(3, p - matter.length());
            }
            int[] row = made.told.get(clerk);
            int left = made.clerks.get(clerk)[1] - Arrays.stream(row).sum();
            row[made.matters.indexOf(matter)] += number(0, left);
        }

        long question(World w) throws Fault {
            String kind = peek();
            if (!List.of("first", "last", "often", "total", "most", "least").contains(kind)) {
                bad();
            }
            p += kind.length();
            boolean ofTest = List.of("first", "last", "often").contains(kind);
            Fact test = ofTest ? test() : null;
            Sum sum = ofTest ? null : sum();
            if (!peek().isEmpty()) {
                bad();
            }
            List<Long> worth = new ArrayList<>();
            List<Integer> who = new ArrayList<>();
            for (int c = 0; c < clerks(); c++) {
                Eye eye = new Eye(w, c, c, 0);
                if (ofTest && test.of(eye)) {
                    who.add(c);
                }
                if (!ofTest) {
                    worth.add(sum.of(eye));
                }
            }
            switch (kind) {
                case "first":
                    return who.isEmpty() ? -1 : who.get(0);
                case "last":
                    return who.isEmpty() ? -1 : who.get(who.size() - 1);
                case "often":
                    return who.size();
                case "total":
                    return worth.stream().mapToLong(x -> x).sum();
                case "most":
                    return worth.isEmpty() ? 0 : Collections.max(worth);
                default:
                    return worth.isEmpty() ? 0 : Collections.min(worth);
            }
        }

        void opens(String what) throws Fault {
            blanks();
            glue();
            if (open.size() == 6) {
                throw new Fault(4, p);
            }
            open.push(what);
            p += what.length();
        }

        Fact test() throws Fault {
            Fact f = both();
            while (next("or")) {
                Fact a = f;
                Fact b = both();
                f = e -> a.of(e) || b.of(e);
            }
            return f;
        }

        Fact both() throws Fault {
            Fact f = fact();
            while (next("and")) {
                Fact a = f;
                Fact b = fact();
                f = e -> a.of(e) && b.of(e);
            }
            return f;
        }

        Fact fact() throws Fault {
            String what = peek();
            if (what.equals("not")) {
                opens("not");
                Fact f = fact();
                open.pop();
                return e -> !f.of(e);
            }
            if (what.equals("[")) {
                opens("[");
                Fact f = test();
                need("]");
                open.pop();
                return f;
            }
            if (next("all")) {
                return e -> true;
            }
            Sum a = sum();
            String sign = peek();
            if (!"<>=".contains(sign) || sign.isEmpty()) {
                bad();
            }
            p++;
            Sum b = sum();
            return sign.equals("<") ? e -> a.of(e) < b.of(e)
                    : sign.equals(">") ? e -> a.of(e) > b.of(e) : e -> a.of(e) == b.of(e);
        }

        long cap(long v) {
            return v > 1000000 ? 1000000 : v < -1000000 ? -1000000 : v;
        }

        Sum sum() throws Fault {
            Sum s = product();
            while (true) {
                Sum a = s;
                if (next("+")) {
                    Sum b = product();
                    s = e -> cap(a.of(e) + b.of(e));
                } else if (next("-")) {
                    Sum b = product();
                    s = e -> cap(a.of(e) - b.of(e));
                } else {
                    return s;
                }
            }
        }

        Sum product() throws Fault {
            Sum s = part();
            while (true) {
                Sum a = s;
                if (next("*")) {
                    Sum b = part();
                    s = e -> cap(a.of(e) * b.of(e));
                } else if (next("/")) {
                    Sum b = part();
                    s = e -> {
                        long by = b.of(e);
                        return by == 0 ? 0 : (long) Math.floor((double) a.of(e) / by);
                    };
                } else {
                    return s;
                }
            }
        }

        Sum part() throws Fault {
            String what = peek();
            if (dig(p)) {
                int n = number();
                return e -> n;
            }
            if (what.equals("(")) {
                opens("(");
                Sum s = sum();
                need(")");
                open.pop();
                return s;
            }
            if (next("min") || next("max")) {
                boolean least = what.equals("min");
                if (!peek().equals("(")) {
                    bad();
                }
                opens("(");
                Sum a = sum();
                need(",");
                Sum b = sum();
                need(")");
                open.pop();
                return least ? e -> Math.min(a.of(e), b.of(e)) : e -> Math.max(a.of(e), b.of(e));
            }
            if (tongue == 2 && (what.equals("drops") || what.equals("off"))) {
                opens(what);
                Sum s = part();
                open.pop();
                return what.equals("drops") ? e -> dropsOf(e, s.of(e)) : e -> offOf(e, s.of(e));
            }
            return word();
        }

        long dropsOf(Eye e, long m) {
            return m >= 0 && m < matters() ? e.world.drops[e.clerk][(int) m] : 0;
        }

        long offOf(Eye e, long c) {
            return c >= 0 && c < clerks() ? Math.abs(e.world.seat[e.clerk] - e.world.seat[(int) c]) : 0;
        }

        Sum word() throws Fault {
            if (next("full")) {
                return e -> e.world.full(e.clerk);
            }
            if (next("room")) {
                return e -> reg.room(e.clerk);
            }
            if (next("seat")) {
                return e -> e.world.seat[e.clerk];
            }
            if (next("day")) {
                return e -> e.world.day;
            }
            if (tongue == 0 && next("drops")) {
                return e -> e.world.drops[e.clerk][e.matter];
            }
            if (tongue == 0 && next("space")) {
                return e -> reg.room(e.other) - e.world.full(e.other);
            }
            if (tongue == 0 && next("matter")) {
                return e -> e.matter;
            }
            if (tongue == 1 && next("off")) {
                return e -> Math.abs(e.world.seat[e.clerk] - e.world.seat[e.other]);
            }
            if (tongue == 2 && next("number")) {
                return e -> e.clerk;
            }
            if (tongue == 2 && next("mind")) {
                return e -> mind(e.world, e.clerk);
            }
            bad();
            return null;
        }
    }
}
