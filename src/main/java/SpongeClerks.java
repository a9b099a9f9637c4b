/**
 * Sponges are the clerks: a registry told as a text, days on which drops of matters leak from clerk
 * to clerk, acts, plans and questions about them.
 *
 * <p>Every row that a call needs is made in the constructors and used again, so that no call makes
 * an object; every index goes through a test first, so that the machine itself never throws.
 */
public final class SpongeClerks {
    public static final int NONE = -1;
    public static final long NOTHING = -1000000000000000L;

    private static final int MOST_BYTES = 1600;
    private static final int MOST_STATEMENTS = 80;
    private static final int MOST_SEATS = 9;
    private static final int MOST_MATTERS = 4;
    private static final int MOST_CLERKS = 7;
    private static final int MOST_LETTERS = 6;
    private static final int MOST_DIGITS = 4;
    private static final int MOST_ROOM = 99;
    private static final int MOST_OPEN = 6;
    private static final int MOST_POOLED = 9999;
    private static final int MOST_KEPT = 40;
    private static final int MOST_UNDONE = 20;
    private static final int MOST_SEEN = 16;
    private static final int MOST_PICTURE = 64;
    private static final int LAST_DAY = 999;
    private static final int DAYS_OF_ONE_ACT = 100;
    private static final int DAYS_AHEAD = 60;
    private static final int DAYS_PLANNED = 30;
    private static final int BOUND = 1000000;

    // Where drops are that no clerk has.
    private static final int FLOOR = 0;
    private static final int READ = 1;
    private static final int RINSED = 2;

    // The kinds of FAULT.
    private static final int UNFIT = 1;
    private static final int BAD_NUMBER = 2;
    private static final int BAD_NAME = 3;
    private static final int TOO_DEEP = 4;
    private static final int TOO_MANY = 5;

    // The kinds of token; GLUED is a word or a number that lacks the blank ahead of it.
    private static final int AT_END = 0;
    private static final int WORD = 1;
    private static final int NUMERAL = 2;
    private static final int SIGN = 3;
    private static final int GLUED = 4;

    // The numbers of the words below are their places in this list.
    private static final String WORDS =
            "seats matter clerk at room told of leaks shakes hand full seat day drops space off number mind or and not all min max first last often total most least ";
    private static final int SEATS = 0;
    private static final int MATTER = 1;
    private static final int CLERK = 2;
    private static final int AT = 3;
    private static final int ROOM = 4;
    private static final int TOLD = 5;
    private static final int OF = 6;
    private static final int LEAKS = 7;
    private static final int SHAKES = 8;
    private static final int HAND = 9;
    private static final int FULL = 10;
    private static final int SEAT = 11;
    private static final int DAY = 12;
    private static final int DROPS = 13;
    private static final int SPACE = 14;
    private static final int OFF = 15;
    private static final int NUMBER = 16;
    private static final int MIND = 17;
    private static final int OR = 18;
    private static final int AND = 19;
    private static final int NOT = 20;
    private static final int ALL = 21;
    private static final int MIN = 22;
    private static final int MAX = 23;
    private static final int FIRST = 24;
    private static final int LAST = 25;
    private static final int OFTEN = 26;
    private static final int TOTAL = 27;
    private static final int MOST = 28;
    private static final int LEAST = 29;
    // Names may be those words that only questions begin with, so these stand behind the OWN WORDS.
    private static final int OWN_WORDS = 24;
    private static final int ALL_WORDS = 30;

    // A cell of code is a word's number, a sign's byte, one of these two, or a number above LITERAL.
    private static final int DROPS_OF = 30;
    private static final int OFF_FROM = 31;
    private static final int LITERAL = 1000;

    private final Row tape = new Row(MOST_BYTES);
    private final Row picture = new Row(MOST_PICTURE);
    private final Row seen = new Row(MOST_SEEN * 4);
    private final Row question = new Row(MOST_BYTES);
    private final Office office = new Office();
    private final Office draft = new Office();
    private final State now = new State();
    private final State trial = new State();
    private final Past past = new Past();
    private final Reader reader = new Reader(tape, draft, question);
    private final Mill mill = new Mill(office);
    private final Ways ways = new Ways(office, mill);
    private final Plans plans = new Plans(office, ways, now, trial);
    private final Hunt hunt = new Hunt(office, ways, now, trial, seen);
    private final int[] refused = new int[6];
    private int seed = 1;

    public SpongeClerks() {
    }

    // ---- the tape, the registry

    public int feed(int a, int b, int c, int d, int e) {
        if (tape.size + 20 > MOST_BYTES) {
            return refuse(0);
        }
        feedNumber(a);
        feedNumber(b);
        feedNumber(c);
        feedNumber(d);
        feedNumber(e);
        return tape.size;
    }

    public boolean end(int n) {
        if (n < 0 || n > tape.size) {
            return deny(0);
        }
        tape.size = n;
        return true;
    }

    public int registry() {
        boolean told = reader.readRegistry();
        tape.clear();
        if (!told) {
            return refuse(1);
        }
        office.copyFrom(draft);
        now.begin(office);
        past.clear();
        seen.clear();
        return office.statements;
    }

    public int fault(int what) {
        switch (what) {
            case 0:
                return reader.fault;
            case 1:
                return reader.place;
            default:
                return NONE;
        }
    }

    // ---- what there is

    public int has(int what) {
        switch (what) {
            case 0:
                return office.seats;
            case 1:
                return office.matters;
            case 2:
                return office.clerks;
            case 3:
                return now.day;
            case 4:
                return total(now.full);
            case 5:
                return now.pooled(FLOOR);
            case 6:
                return ways.countFull(now);
            case 7:
                return now.keptCount;
            case 8:
                return seen.size / 4;
            case 9:
                return past.count;
            default:
                return NONE;
        }
    }

    public int letter(int kind, int which, int k) {
        boolean there = kind == 0 ? office.isMatter(which) : kind == 1 && office.isClerk(which);
        if (!there || !within(k, 0, MOST_LETTERS - 1)) {
            return NONE;
        }
        return letterOf(pick(office.names, kind == 0 ? which : MOST_MATTERS + which), k);
    }

    public int seat(int seat) {
        return now.sitterAt(seat);
    }

    public int clerk(int clerk, int what) {
        if (!office.isClerk(clerk)) {
            return NONE;
        }
        switch (what) {
            case 0:
                return pick(now.seats, clerk);
            case 1:
                return pick(office.rooms, clerk);
            case 2:
                return pick(now.full, clerk);
            case 3:
                return now.mindOf(clerk);
            case 4:
                return plans.powerOf(clerk);
            default:
                return NONE;
        }
    }

    public int drops(int clerk, int matter) {
        return office.areThere(clerk, matter) ? now.dropsOf(clerk, matter) : NONE;
    }

    public int matter(int matter, int what) {
        if (!office.isMatter(matter)) {
            return NONE;
        }
        switch (what) {
            case 0:
                return now.heldOf(matter);
            case 1:
                return now.poolOf(FLOOR, matter);
            case 2:
                return now.poolOf(READ, matter);
            case 3:
                return now.poolOf(RINSED, matter);
            case 4:
                return now.knowing(matter);
            default:
                return NONE;
        }
    }

    public int leak(int clerk, int side, int matter) {
        if (!office.areThere(clerk, matter) || !within(side, 0, 1)) {
            return NONE;
        }
        int other = now.sitterAt(pick(now.seats, clerk) + (side == 0 ? -1 : 1));
        return other < 0 ? NONE : ways.flow(now, clerk, other, matter);
    }

    public int kept(int k, int what) {
        return within(what, 0, 2) ? now.keptAt(k, what) : NONE;
    }

    // ---- ahead

    public int later(int clerk, int matter, int n) {
        if (!office.areThere(clerk, matter) || !canPass(n, 0, DAYS_AHEAD)) {
            return NONE;
        }
        lookAhead(n);
        return trial.dropsOf(clerk, matter);
    }

    public int knows(int matter, int n) {
        if (!office.isMatter(matter) || !canPass(n, 0, DAYS_AHEAD)) {
            return NONE;
        }
        lookAhead(n);
        return trial.knowing(matter);
    }

    public int hears(int clerk, int matter) {
        if (!office.areThere(clerk, matter)) {
            return NONE;
        }
        trial.copyRoom(now);
        int last = Math.min(DAYS_AHEAD, LAST_DAY - now.day);
        for (int n = 0; n <= last; n++) {
            if (n > 0) {
                ways.passDay(trial);
            }
            if (trial.dropsOf(clerk, matter) > 0) {
                return n;
            }
        }
        return NONE;
    }

    // ---- seats, squeezes

    public int discreet(int matter, int n, int what) {
        boolean asked = office.isMatter(matter) && canPass(n, 1, DAYS_PLANNED);
        if (!asked || !within(what, 0, 2) || !plans.findDiscreet(matter, n)) {
            return NONE;
        }
        if (what == 2) {
            return plans.fewest;
        }
        return what == 0 ? plans.lessSeat : plans.moreSeat;
    }

    public int pressed(int clerk, int matter, int n) {
        if (!office.areThere(clerk, matter) || !canPass(n, 1, DAYS_PLANNED)) {
            return NONE;
        }
        return plans.findPressed(clerk, matter, n);
    }

    public int mops() {
        return office.open ? plans.findMops() : NONE;
    }

    public int desks(int matter) {
        return office.isMatter(matter) ? plans.findDesk(matter) : NONE;
    }

    // ---- from whom

    public int see() {
        boolean told = hunt.areRows(tape);
        if (told) {
            seen.copyFrom(tape);
        }
        tape.clear();
        return told ? seen.size / 4 : refuse(1);
    }

    public int sources(int matter, int much) {
        if (!office.isMatter(matter) || !within(much, 0, MOST_ROOM)) {
            return NONE;
        }
        return hunt.findSources(matter, much);
    }

    public int tells(int matter, int much, int what) {
        boolean asked = office.isMatter(matter) && within(much, 0, MOST_ROOM);
        if (!asked || !within(what, 0, 2)) {
            return NONE;
        }
        int bits = hunt.findSources(matter, much);
        if (bits == 0) {
            return NONE;
        }
        hunt.findTelling(bits, matter, much);
        if (what == 2) {
            return hunt.left;
        }
        return what == 0 ? hunt.day : hunt.clerk;
    }

    // ---- acts

    public int tell(int clerk, int matter, int much) {
        boolean asked = office.areThere(clerk, matter) && within(much, 1, MOST_ROOM);
        if (!asked || !ways.canPour(now, clerk, matter, much)) {
            return refuse(2);
        }
        past.keep(now);
        return ways.pour(now, clerk, matter, much);
    }

    public int squeeze(int clerk) {
        return dry(clerk, READ);
    }

    public int rinse(int clerk) {
        return dry(clerk, RINSED);
    }

    public int mop(int clerk) {
        if (!office.isClerk(clerk) || ways.space(now, clerk) == 0 || now.pooled(FLOOR) == 0) {
            return refuse(2);
        }
        past.keep(now);
        return ways.takeFromFloor(now, clerk);
    }

    public boolean change(int one, int other) {
        boolean there = office.isSeat(one) && office.isSeat(other) && one != other;
        if (!there || (now.sitterAt(one) < 0 && now.sitterAt(other) < 0)) {
            return deny(2);
        }
        past.keep(now);
        now.swap(one, other);
        return true;
    }

    public int days(int n) {
        if (!canPass(n, 1, DAYS_OF_ONE_ACT)) {
            return refuse(3);
        }
        past.keep(now);
        int moved = 0;
        for (int k = 0; k < n; k++) {
            moved += liveDay(0);
        }
        return moved;
    }

    public int chance(int n) {
        if (!canPass(n, 1, DAYS_OF_ONE_ACT)) {
            return refuse(3);
        }
        past.keep(now);
        int shaken = 0;
        for (int k = 0; k < n; k++) {
            int byHand = tryHands();
            if (byHand >= 0) {
                shaken++;
            }
            liveDay(Math.max(0, byHand));
        }
        return shaken;
    }

    public boolean undo() {
        return past.goBack(now) || deny(4);
    }

    public boolean seed(int seed) {
        if (seed < 0) {
            return deny(5);
        }
        this.seed = seed;
        return true;
    }

    // ---- questions

    public long ask() {
        if (!office.open) {
            tape.clear();
            return NOTHING;
        }
        int kind = reader.readQuestion();
        tape.clear();
        if (kind < 0) {
            return NOTHING;
        }
        return kind == FIRST || kind == LAST || kind == OFTEN ? countHolding(kind) : gatherSums(kind);
    }

    // ---- images, refusals

    public int image() {
        picture.clear();
        putPair(now.day);
        for (int clerk = 0; clerk < office.clerks; clerk++) {
            picture.put(pick(now.seats, clerk));
            for (int matter = 0; matter < office.matters; matter++) {
                picture.put(now.dropsOf(clerk, matter));
            }
        }
        for (int matter = 0; matter < office.matters; matter++) {
            for (int pool = FLOOR; pool <= RINSED; pool++) {
                putPair(now.poolOf(pool, matter));
            }
        }
        picture.put(picture.checkOf(picture.size));
        return picture.size;
    }

    public int octet(int k) {
        return picture.at(k);
    }

    public boolean on() {
        boolean told = office.open && trial.readPicture(tape, office);
        tape.clear();
        if (!told) {
            return deny(5);
        }
        now.copyRoom(trial);
        now.forgetKept();
        past.clear();
        return true;
    }

    public int status(int what) {
        return within(what, 0, refused.length - 1) ? pick(refused, what) : NONE;
    }

    // ---- what the calls share

    private int refuse(int what) {
        add(refused, what, 1);
        return NONE;
    }

    private boolean deny(int what) {
        refuse(what);
        return false;
    }

    private void feedNumber(int number) {
        tape.put((number >>> 24) & 255);
        tape.put((number >>> 16) & 255);
        tape.put((number >>> 8) & 255);
        tape.put(number & 255);
    }

    private void putPair(int number) {
        picture.put((number >>> 8) & 255);
        picture.put(number & 255);
    }

    private boolean canPass(int n, int least, int most) {
        return office.open && within(n, least, most) && now.day + n <= LAST_DAY;
    }

    private void lookAhead(int n) {
        trial.copyRoom(now);
        for (int k = 0; k < n; k++) {
            ways.passDay(trial);
        }
    }

    private int dry(int clerk, int pool) {
        if (!office.isClerk(clerk) || pick(now.full, clerk) == 0) {
            return refuse(2);
        }
        past.keep(now);
        return now.empty(clerk, pool);
    }

    private int liveDay(int byHand) {
        int number = now.day;
        int moved = ways.passDay(now);
        now.keepDay(number, byHand + moved, ways.countFull(now));
        return moved;
    }

    /** How many drops went over by hand; NONE when no hands were shaken. */
    private int tryHands() {
        if (draw(100) >= office.hand || office.clerks < 2) {
            return NONE;
        }
        int giver = draw(office.clerks);
        int taker = draw(office.clerks - 1);
        if (taker >= giver) {
            taker++;
        }
        return ways.shake(now, giver, taker);
    }

    private int draw(int many) {
        seed = (int) ((1103515245L * seed + 12345L) & 0x7fffffffL);
        return many > 0 ? (seed / 64) % many : 0;
    }

    private long countHolding(int kind) {
        int often = 0;
        int first = NONE;
        int last = NONE;
        for (int clerk = 0; clerk < office.clerks; clerk++) {
            if (mill.worth(question, now, clerk, clerk, now.mindOf(clerk)) != 0) {
                often++;
                first = first < 0 ? clerk : first;
                last = clerk;
            }
        }
        if (kind == OFTEN) {
            return often;
        }
        return kind == FIRST ? first : last;
    }

    private long gatherSums(int kind) {
        long all = 0;
        for (int clerk = 0; clerk < office.clerks; clerk++) {
            int sum = mill.worth(question, now, clerk, clerk, now.mindOf(clerk));
            if (clerk == 0) {
                all = sum;
            } else if (kind == TOTAL) {
                all += sum;
            } else {
                all = kind == MOST ? Math.max(all, sum) : Math.min(all, sum);
            }
        }
        return all;
    }

    // ---- rows

    private static int pick(int[] row, int k) {
        return k >= 0 && k < row.length ? row[k] : 0;
    }

    private static void set(int[] row, int k, int value) {
        if (k >= 0 && k < row.length) {
            row[k] = value;
        }
    }

    private static void add(int[] row, int k, int more) {
        if (k >= 0 && k < row.length) {
            row[k] += more;
        }
    }

    private static void fill(int[] row, int value) {
        for (int k = 0; k < row.length; k++) {
            row[k] = value;
        }
    }

    private static void copy(int[] from, int[] to) {
        System.arraycopy(from, 0, to, 0, Math.min(from.length, to.length));
    }

    private static int total(int[] row) {
        int sum = 0;
        for (int k = 0; k < row.length; k++) {
            sum += row[k];
        }
        return sum;
    }

    private static boolean within(int value, int least, int most) {
        return value >= least && value <= most;
    }

    /** A word of up to six letters is one number, its letters 1 .. 26 as digits of 27. */
    private static int letterOf(int packed, int k) {
        int letters = 0;
        for (int rest = packed; rest > 0; rest /= 27) {
            letters++;
        }
        int rest = k < letters ? packed : 0;
        for (int behind = letters - 1; behind > k; behind--) {
            rest /= 27;
        }
        return rest % 27;
    }

    /** Numbers one behind the other: the tape, an image, code, what is SEEN. */
    private static final class Row {
        final int[] cells;
        int size;

        Row(int most) {
            cells = new int[Math.max(0, most)];
        }

        int at(int k) {
            return k >= 0 && k < size && k < cells.length ? cells[k] : NONE;
        }

        void put(int value) {
            if (size >= 0 && size < cells.length) {
                cells[size] = value;
                size++;
            }
        }

        void clear() {
            size = 0;
        }

        void copyFrom(Row other) {
            size = Math.min(other.size, cells.length);
            for (int k = 0; k < size; k++) {
                set(cells, k, other.at(k));
            }
        }

        boolean holds(int value) {
            for (int k = 0; k < size; k++) {
                if (at(k) == value) {
                    return true;
                }
            }
            return false;
        }

        int checkOf(int many) {
            int check = 191;
            for (int k = 0; k < many; k++) {
                check = (3 * check + at(k)) % 251;
            }
            return check;
        }

        int pairAt(int k) {
            return at(k) * 256 + at(k + 1);
        }
    }

    /** What a registry tells; it stays as it is until the next registry. */
    private static final class Office {
        boolean open;
        int statements;
        int seats;
        int matters;
        int clerks;
        int hand;
        boolean leaksTold;
        boolean shakesTold;
        boolean leaksByDay;
        final int[] names = new int[MOST_MATTERS + MOST_CLERKS];
        final int[] rooms = new int[MOST_CLERKS];
        final int[] seatsAtFirst = new int[MOST_CLERKS];
        final int[] dropsAtFirst = new int[MOST_CLERKS * MOST_MATTERS];
        final int[] fullAtFirst = new int[MOST_CLERKS];
        final Row leaks = new Row(MOST_BYTES);
        final Row shakes = new Row(MOST_BYTES);

        void begin() {
            open = true;
            statements = 0;
            seats = 0;
            matters = 0;
            clerks = 0;
            hand = 0;
            leaksTold = false;
            shakesTold = false;
            fill(names, 0);
            fill(rooms, 0);
            fill(seatsAtFirst, NONE);
            fill(dropsAtFirst, 0);
            fill(fullAtFirst, 0);
            leaks.clear();
            leaks.put(DROPS);
            leaks.put(LITERAL + 4);
            leaks.put('/');
            shakes.clear();
            shakes.put(ALL);
        }

        void copyFrom(Office other) {
            open = other.open;
            statements = other.statements;
            seats = other.seats;
            matters = other.matters;
            clerks = other.clerks;
            hand = other.hand;
            leaksTold = other.leaksTold;
            shakesTold = other.shakesTold;
            copy(other.names, names);
            copy(other.rooms, rooms);
            copy(other.seatsAtFirst, seatsAtFirst);
            copy(other.dropsAtFirst, dropsAtFirst);
            copy(other.fullAtFirst, fullAtFirst);
            leaks.copyFrom(other.leaks);
            shakes.copyFrom(other.shakes);
            leaksByDay = leaks.holds(DAY);
        }

        boolean isSeat(int seat) {
            return seat >= 0 && seat < seats;
        }

        boolean isClerk(int clerk) {
            return clerk >= 0 && clerk < clerks;
        }

        boolean isMatter(int matter) {
            return matter >= 0 && matter < matters;
        }

        boolean areThere(int clerk, int matter) {
            return isClerk(clerk) && isMatter(matter);
        }

        boolean isTaken(int seat) {
            for (int clerk = 0; clerk < clerks; clerk++) {
                if (pick(seatsAtFirst, clerk) == seat) {
                    return true;
                }
            }
            return false;
        }
    }

    /** Who sits where and which drops are where on one day; what is KEPT comes along for undo. */
    private static final class State {
        int day;
        final int[] seats = new int[MOST_CLERKS];
        final int[] sitters = new int[MOST_SEATS];
        final int[] drops = new int[MOST_CLERKS * MOST_MATTERS];
        final int[] full = new int[MOST_CLERKS];
        final int[] pools = new int[3 * MOST_MATTERS];
        final int[] keptRows = new int[3 * MOST_KEPT];
        int keptFirst;
        int keptCount;
        // A day that leaves all drops where they were is followed by days like it: they need not be
        // worked out, until an act or the DAY itself can make a difference.
        boolean settled;
        int moved;

        State() {
            fill(sitters, NONE);
        }

        void begin(Office office) {
            day = 0;
            copy(office.seatsAtFirst, seats);
            seatAll(office.clerks);
            copy(office.dropsAtFirst, drops);
            copy(office.fullAtFirst, full);
            fill(pools, 0);
            forgetKept();
            settled = false;
        }

        void seatAll(int clerks) {
            fill(sitters, NONE);
            for (int clerk = 0; clerk < clerks; clerk++) {
                set(sitters, pick(seats, clerk), clerk);
            }
        }

        /** What is KEPT is left out: the days ahead never ask for it. */
        void copyRoom(State other) {
            day = other.day;
            copy(other.seats, seats);
            copy(other.sitters, sitters);
            copy(other.drops, drops);
            copy(other.full, full);
            copy(other.pools, pools);
            settled = other.settled;
            moved = other.moved;
        }

        void copyAll(State other) {
            copyRoom(other);
            copy(other.keptRows, keptRows);
            keptFirst = other.keptFirst;
            keptCount = other.keptCount;
        }

        int sitterAt(int seat) {
            return seat >= 0 && seat < sitters.length ? sitters[seat] : NONE;
        }

        int dropsOf(int clerk, int matter) {
            boolean there = clerk >= 0 && clerk < MOST_CLERKS && matter >= 0 && matter < MOST_MATTERS;
            return there ? drops[clerk * MOST_MATTERS + matter] : 0;
        }

        int farOff(int one, int other) {
            boolean there = one >= 0 && one < MOST_CLERKS && other >= 0 && other < MOST_CLERKS;
            int way = there ? seats[one] - seats[other] : 0;
            return way < 0 ? -way : way;
        }

        void gain(int clerk, int matter, int much) {
            add(drops, clerk * MOST_MATTERS + matter, much);
            add(full, clerk, much);
            settled = false;
        }

        int poolOf(int pool, int matter) {
            return pick(pools, pool * MOST_MATTERS + matter);
        }

        void addToPool(int pool, int matter, int much) {
            int more = Math.min(MOST_POOLED, poolOf(pool, matter) + much);
            set(pools, pool * MOST_MATTERS + matter, more);
        }

        int pooled(int pool) {
            int sum = 0;
            for (int matter = 0; matter < MOST_MATTERS; matter++) {
                sum += poolOf(pool, matter);
            }
            return sum;
        }

        int heldOf(int matter) {
            int sum = 0;
            for (int clerk = 0; clerk < MOST_CLERKS; clerk++) {
                sum += dropsOf(clerk, matter);
            }
            return sum;
        }

        int knowing(int matter) {
            int bits = 0;
            for (int clerk = 0; clerk < MOST_CLERKS; clerk++) {
                if (dropsOf(clerk, matter) > 0) {
                    bits |= 1 << clerk;
                }
            }
            return bits;
        }

        int mindOf(int clerk) {
            int mind = NONE;
            int most = 0;
            for (int matter = 0; matter < MOST_MATTERS; matter++) {
                if (dropsOf(clerk, matter) > most) {
                    most = dropsOf(clerk, matter);
                    mind = matter;
                }
            }
            return mind;
        }

        int empty(int clerk, int pool) {
            int much = pick(full, clerk);
            for (int matter = 0; matter < MOST_MATTERS; matter++) {
                int drop = dropsOf(clerk, matter);
                addToPool(pool, matter, drop);
                gain(clerk, matter, -drop);
            }
            return much;
        }

        void swap(int one, int other) {
            int first = sitterAt(one);
            int second = sitterAt(other);
            set(sitters, one, second);
            set(sitters, other, first);
            set(seats, first, other);
            set(seats, second, one);
            settled = false;
        }

        void forgetKept() {
            keptFirst = 0;
            keptCount = 0;
        }

        void keepDay(int number, int moved, int fullOnes) {
            int row = (keptFirst + keptCount) % MOST_KEPT;
            set(keptRows, 3 * row, number);
            set(keptRows, 3 * row + 1, moved);
            set(keptRows, 3 * row + 2, fullOnes);
            if (keptCount < MOST_KEPT) {
                keptCount++;
            } else {
                keptFirst = (keptFirst + 1) % MOST_KEPT;
            }
        }

        int keptAt(int k, int what) {
            if (k < 0 || k >= keptCount) {
                return NONE;
            }
            return pick(keptRows, 3 * ((keptFirst + k) % MOST_KEPT) + what);
        }

        /** All is as the image tells; false, with this state spoilt, when it is none. */
        boolean readPicture(Row image, Office office) {
            int clerkBytes = 1 + office.matters;
            int size = 2 + office.clerks * clerkBytes + 6 * office.matters + 1;
            if (image.size != size || image.checkOf(size - 1) != image.at(size - 1)) {
                return false;
            }
            day = image.pairAt(0);
            fill(sitters, NONE);
            fill(drops, 0);
            fill(full, 0);
            settled = false;
            for (int clerk = 0; clerk < office.clerks; clerk++) {
                if (!readClerk(clerk, image, 2 + clerk * clerkBytes, office)) {
                    return false;
                }
            }
            return day <= LAST_DAY && readPools(image, 2 + office.clerks * clerkBytes, office.matters);
        }

        private boolean readClerk(int clerk, Row image, int from, Office office) {
            int seat = image.at(from);
            if (!office.isSeat(seat) || sitterAt(seat) >= 0) {
                return false;
            }
            set(seats, clerk, seat);
            set(sitters, seat, clerk);
            for (int matter = 0; matter < office.matters; matter++) {
                gain(clerk, matter, image.at(from + 1 + matter));
            }
            return pick(full, clerk) <= pick(office.rooms, clerk);
        }

        private boolean readPools(Row image, int from, int matters) {
            fill(pools, 0);
            for (int matter = 0; matter < matters; matter++) {
                for (int pool = FLOOR; pool <= RINSED; pool++) {
                    int much = image.pairAt(from + 6 * matter + 2 * pool);
                    if (much > MOST_POOLED) {
                        return false;
                    }
                    set(pools, pool * MOST_MATTERS + matter, much);
                }
            }
            return true;
        }
    }

    /** The states ahead of the latest acts, the oldest forgotten first. */
    private static final class Past {
        private final State[] states = new State[MOST_UNDONE];
        private int next;
        int count;

        Past() {
            for (int k = 0; k < states.length; k++) {
                states[k] = new State();
            }
        }

        void clear() {
            count = 0;
        }

        void keep(State state) {
            if (next < 0 || next >= states.length || states[next] == null) {
                return;
            }
            states[next].copyAll(state);
            next = (next + 1) % MOST_UNDONE;
            count = Math.min(count + 1, MOST_UNDONE);
        }

        boolean goBack(State state) {
            int latest = (next + MOST_UNDONE - 1) % MOST_UNDONE;
            if (count == 0 || latest < 0 || latest >= states.length || states[latest] == null) {
                return false;
            }
            state.copyAll(states[latest]);
            next = latest;
            count--;
            return true;
        }
    }

    /** Cuts the tape into words, numbers and signs, one looked at ahead of the grammar. */
    private static final class Tokens {
        private final Row tape;
        private final int[] words = new int[ALL_WORDS];
        int kind;
        int word;
        int value;
        int start;
        int next;

        Tokens(Row tape) {
            this.tape = tape;
            int row = 0;
            int packed = 0;
            for (int k = 0; k < WORDS.length(); k++) {
                if (WORDS.charAt(k) == ' ') {
                    set(words, row, packed);
                    row++;
                    packed = 0;
                } else {
                    packed = 27 * packed + WORDS.charAt(k) - 'a' + 1;
                }
            }
        }

        void begin() {
            kind = SIGN;
            next = 0;
            scan();
        }

        /** What is too long of a word or a number has no part in its value: it is a FAULT. */
        void scan() {
            int behind = next;
            boolean sticky = kind == WORD || kind == NUMERAL;
            while (next < tape.size && isBlank(tape.at(next))) {
                next++;
            }
            start = next;
            kind = kindOf(tape.at(start));
            value = 0;
            while (next < tape.size && kindOf(tape.at(next)) == kind && kind != SIGN) {
                if (kind == WORD && next - start < MOST_LETTERS) {
                    value = 27 * value + tape.at(next) - 'a' + 1;
                } else if (kind == NUMERAL && next - start < MOST_DIGITS) {
                    value = 10 * value + tape.at(next) - '0';
                }
                next++;
            }
            if (kind == SIGN) {
                value = tape.at(start);
                next++;
            }
            word = findWord();
            if (sticky && start == behind && (kind == WORD || kind == NUMERAL)) {
                kind = GLUED;
            }
        }

        boolean isWord(int asked) {
            return kind == WORD && word == asked;
        }

        boolean isSign(int asked) {
            return kind == SIGN && value == asked;
        }

        int length() {
            return next - start;
        }

        private int findWord() {
            for (int k = 0; k < words.length && kind == WORD && next - start <= MOST_LETTERS; k++) {
                if (words[k] == value) {
                    return k;
                }
            }
            return NONE;
        }

        private static boolean isBlank(int sign) {
            return sign == ' ' || sign == 10;
        }

        private static int kindOf(int sign) {
            if (sign >= 'a' && sign <= 'z') {
                return WORD;
            }
            if (sign >= '0' && sign <= '9') {
                return NUMERAL;
            }
            return sign == NONE ? AT_END : SIGN;
        }
    }

    /** Reads registries and questions; it stops at the first FAULT and tells it. */
    private static final class Reader {
        private final Tokens tokens;
        private final Office draft;
        private final Row question;
        private Row code;
        // Which PARTs there are hangs on whose text it is: LEAKS, SHAKES, or OFTEN for any question.
        private int tongue;
        int fault;
        int place = NONE;

        Reader(Row tape, Office draft, Row question) {
            this.tokens = new Tokens(tape);
            this.draft = draft;
            this.question = question;
            this.code = question;
        }

        boolean readRegistry() {
            begin();
            draft.begin();
            for (int k = 0; k <= MOST_STATEMENTS; k++) {
                if (k > 0 && tokens.kind == AT_END) {
                    draft.statements = k;
                    return true;
                }
                if (!readStatement(k) || !takeSign(';')) {
                    return false;
                }
            }
            return false;
        }

        /** The word that the question begins with; NONE with a FAULT. */
        int readQuestion() {
            begin();
            int kind = tokens.kind == WORD ? tokens.word : NONE;
            if (kind < OWN_WORDS) {
                unfit();
                return NONE;
            }
            tokens.scan();
            speak(question, OFTEN);
            boolean ofTest = kind == FIRST || kind == LAST || kind == OFTEN;
            boolean read = ofTest ? readTest(0) : readSum(0);
            if (read && tokens.kind != AT_END) {
                read = unfit();
            }
            return read ? kind : NONE;
        }

        private void begin() {
            fault = 0;
            place = NONE;
            tokens.begin();
        }

        private void speak(Row target, int newTongue) {
            target.clear();
            code = target;
            tongue = newTongue;
        }

        private boolean refuse(int kind, int where) {
            fault = kind;
            place = where;
            return false;
        }

        private boolean unfit() {
            fault = UNFIT;
            place = tokens.start;
            return false;
        }

        private boolean takeSign(int sign) {
            if (!tokens.isSign(sign)) {
                return unfit();
            }
            tokens.scan();
            return true;
        }

        private boolean takeWord(int word) {
            if (!tokens.isWord(word)) {
                return unfit();
            }
            tokens.scan();
            return true;
        }

        private boolean readStatement(int number) {
            if (number >= MOST_STATEMENTS) {
                return refuse(TOO_MANY, tokens.start);
            }
            if (tokens.kind != WORD || (tokens.word == SEATS) != (number == 0)) {
                return unfit();
            }
            switch (tokens.word) {
                case SEATS:
                    return readSeats();
                case MATTER:
                    return readMatter();
                case CLERK:
                    return readClerk();
                case TOLD:
                    return readTold();
                case LEAKS:
                    return speakLeaks() && readSum(0);
                case SHAKES:
                    return speakShakes() && readTest(0);
                case HAND:
                    return readHand();
                default:
                    return unfit();
            }
        }

        private boolean readSeats() {
            tokens.scan();
            draft.seats = readNumber(2, MOST_SEATS);
            return draft.seats != NONE;
        }

        private boolean readMatter() {
            if (draft.matters >= MOST_MATTERS) {
                return refuse(TOO_MANY, tokens.start);
            }
            tokens.scan();
            if (!giveName(draft.matters)) {
                return false;
            }
            draft.matters++;
            return true;
        }

        private boolean readClerk() {
            int clerk = draft.clerks;
            if (clerk >= MOST_CLERKS) {
                return refuse(TOO_MANY, tokens.start);
            }
            tokens.scan();
            if (!giveName(MOST_MATTERS + clerk) || !takeWord(AT)) {
                return false;
            }
            int seatPlace = tokens.start;
            int seat = readNumber(0, draft.seats - 1);
            if (seat != NONE && draft.isTaken(seat)) {
                return refuse(BAD_NUMBER, seatPlace);
            }
            if (seat == NONE || !takeWord(ROOM)) {
                return false;
            }
            int room = readNumber(1, MOST_ROOM);
            set(draft.seatsAtFirst, clerk, seat);
            set(draft.rooms, clerk, room);
            draft.clerks++;
            return room != NONE;
        }

        private boolean readTold() {
            tokens.scan();
            int clerk = findName(MOST_MATTERS, draft.clerks);
            if (clerk == NONE || !takeWord(OF)) {
                return false;
            }
            int matter = findName(0, draft.matters);
            if (matter == NONE) {
                return false;
            }
            int space = pick(draft.rooms, clerk) - pick(draft.fullAtFirst, clerk);
            int much = readNumber(0, space);
            if (much == NONE) {
                return false;
            }
            add(draft.dropsAtFirst, clerk * MOST_MATTERS + matter, much);
            add(draft.fullAtFirst, clerk, much);
            return true;
        }

        private boolean speakLeaks() {
            if (draft.leaksTold) {
                return refuse(TOO_MANY, tokens.start);
            }
            draft.leaksTold = true;
            tokens.scan();
            speak(draft.leaks, LEAKS);
            return true;
        }

        private boolean speakShakes() {
            if (draft.shakesTold) {
                return refuse(TOO_MANY, tokens.start);
            }
            draft.shakesTold = true;
            tokens.scan();
            speak(draft.shakes, SHAKES);
            return true;
        }

        private boolean readHand() {
            tokens.scan();
            draft.hand = readNumber(0, 100);
            return draft.hand != NONE;
        }

        private boolean isNumber() {
            if (tokens.kind != NUMERAL) {
                return unfit();
            }
            return tokens.length() <= MOST_DIGITS || refuse(UNFIT, tokens.start + MOST_DIGITS);
        }

        private int readNumber(int least, int most) {
            if (!isNumber()) {
                return NONE;
            }
            int number = tokens.value;
            if (!within(number, least, most)) {
                refuse(BAD_NUMBER, tokens.start);
                return NONE;
            }
            tokens.scan();
            return number;
        }

        private boolean isName() {
            if (tokens.kind != WORD || within(tokens.word, 0, OWN_WORDS - 1)) {
                return unfit();
            }
            return tokens.length() <= MOST_LETTERS || refuse(UNFIT, tokens.start + MOST_LETTERS);
        }

        private int findName(int from, int many) {
            if (!isName()) {
                return NONE;
            }
            for (int k = 0; k < many; k++) {
                if (pick(draft.names, from + k) == tokens.value) {
                    tokens.scan();
                    return k;
                }
            }
            refuse(BAD_NAME, tokens.start);
            return NONE;
        }

        private boolean giveName(int row) {
            if (!isName()) {
                return false;
            }
            for (int k = 0; k < draft.names.length; k++) {
                if (draft.names[k] == tokens.value) {
                    return refuse(BAD_NAME, tokens.start);
                }
            }
            set(draft.names, row, tokens.value);
            tokens.scan();
            return true;
        }

        // How many of ( [ not drops off are open goes along as an argument: it bounds the depth.

        private boolean readTest(int open) {
            if (!readBoth(open)) {
                return false;
            }
            for (int k = 0; k < MOST_BYTES && tokens.isWord(OR); k++) {
                tokens.scan();
                if (!readBoth(open)) {
                    return false;
                }
                code.put(OR);
            }
            return true;
        }

        private boolean readBoth(int open) {
            if (!readFact(open)) {
                return false;
            }
            for (int k = 0; k < MOST_BYTES && tokens.isWord(AND); k++) {
                tokens.scan();
                if (!readFact(open)) {
                    return false;
                }
                code.put(AND);
            }
            return true;
        }

        private boolean readFact(int open) {
            if (tokens.isWord(ALL)) {
                code.put(ALL);
                tokens.scan();
                return true;
            }
            if (tokens.isWord(NOT)) {
                if (!takeOpening(open) || !readFact(open + 1)) {
                    return false;
                }
                code.put(NOT);
                return true;
            }
            if (tokens.isSign('[')) {
                return takeOpening(open) && readTest(open + 1) && takeSign(']');
            }
            if (!readSum(open)) {
                return false;
            }
            if (!tokens.isSign('<') && !tokens.isSign('>') && !tokens.isSign('=')) {
                return unfit();
            }
            int sign = tokens.value;
            tokens.scan();
            if (!readSum(open)) {
                return false;
            }
            code.put(sign);
            return true;
        }

        private boolean readSum(int open) {
            if (!readProduct(open)) {
                return false;
            }
            for (int k = 0; k < MOST_BYTES && (tokens.isSign('+') || tokens.isSign('-')); k++) {
                int sign = tokens.value;
                tokens.scan();
                if (!readProduct(open)) {
                    return false;
                }
                code.put(sign);
            }
            return true;
        }

        private boolean readProduct(int open) {
            if (!readPart(open)) {
                return false;
            }
            for (int k = 0; k < MOST_BYTES && (tokens.isSign('*') || tokens.isSign('/')); k++) {
                int sign = tokens.value;
                tokens.scan();
                if (!readPart(open)) {
                    return false;
                }
                code.put(sign);
            }
            return true;
        }

        private boolean readPart(int open) {
            if (tokens.kind == NUMERAL) {
                return readLiteral();
            }
            if (tokens.isSign('(')) {
                return takeOpening(open) && readSum(open + 1) && takeSign(')');
            }
            if (tokens.kind != WORD) {
                return unfit();
            }
            int word = tokens.word;
            if (word == MIN || word == MAX) {
                return readPair(word, open);
            }
            if (tongue == OFTEN && (word == DROPS || word == OFF)) {
                return readOfPart(word == DROPS ? DROPS_OF : OFF_FROM, open);
            }
            if (!isSpoken(word)) {
                return unfit();
            }
            code.put(word);
            tokens.scan();
            return true;
        }

        private boolean readLiteral() {
            if (!isNumber()) {
                return false;
            }
            code.put(LITERAL + tokens.value);
            tokens.scan();
            return true;
        }

        private boolean readPair(int word, int open) {
            tokens.scan();
            if (!tokens.isSign('(')) {
                return unfit();
            }
            boolean read = takeOpening(open) && readSum(open + 1) && takeSign(',')
                    && readSum(open + 1) && takeSign(')');
            if (read) {
                code.put(word);
            }
            return read;
        }

        private boolean readOfPart(int cell, int open) {
            if (!takeOpening(open) || !readPart(open + 1)) {
                return false;
            }
            code.put(cell);
            return true;
        }

        private boolean takeOpening(int open) {
            if (open >= MOST_OPEN) {
                return refuse(TOO_DEEP, tokens.start);
            }
            tokens.scan();
            return true;
        }

        private boolean isSpoken(int word) {
            switch (word) {
                case FULL:
                case ROOM:
                case SEAT:
                case DAY:
                    return true;
                case DROPS:
                case SPACE:
                case MATTER:
                    return tongue == LEAKS;
                case OFF:
                    return tongue == SHAKES;
                case NUMBER:
                case MIND:
                    return tongue == OFTEN;
                default:
                    return false;
            }
        }
    }

    /** Works code out for one clerk: each cell takes what it needs from the stack. */
    private static final class Mill {
        private final Office office;
        // Seven levels that wait for at most six numbers each are all that the grammar lets stand.
        private final int[] stack = new int[64];

        Mill(Office office) {
            this.office = office;
        }

        /** In questions the matter is the one that the clerk has in mind. */
        int worth(Row code, State state, int clerk, int other, int matter) {
            int top = 0;
            for (int k = 0; k < code.size; k++) {
                int cell = code.at(k);
                int needs = needsOf(cell);
                top -= needs;
                if (top < 0 || top + 1 >= stack.length) {
                    return 0;
                }
                if (needs == 0) {
                    stack[top] = look(cell, state, clerk, other, matter);
                } else if (needs == 1) {
                    stack[top] = turn(cell, stack[top], state, clerk);
                } else {
                    stack[top] = join(cell, stack[top], stack[top + 1]);
                }
                top++;
            }
            return stack[0];
        }

        private static int needsOf(int cell) {
            switch (cell) {
                case NOT:
                case DROPS_OF:
                case OFF_FROM:
                    return 1;
                case '+':
                case '-':
                case '*':
                case '/':
                case '<':
                case '>':
                case '=':
                case AND:
                case OR:
                case MIN:
                case MAX:
                    return 2;
                default:
                    return 0;
            }
        }

        private int look(int cell, State state, int clerk, int other, int matter) {
            if (cell >= LITERAL) {
                return cell - LITERAL;
            }
            if (clerk < 0 || clerk >= MOST_CLERKS || other < 0 || other >= MOST_CLERKS) {
                return 0;
            }
            switch (cell) {
                case FULL:
                    return state.full[clerk];
                case ROOM:
                    return office.rooms[clerk];
                case SEAT:
                    return state.seats[clerk];
                case DAY:
                    return state.day;
                case DROPS:
                    return state.dropsOf(clerk, matter);
                case SPACE:
                    return office.rooms[other] - state.full[other];
                case MATTER:
                case MIND:
                    return matter;
                case OFF:
                    return state.farOff(clerk, other);
                case NUMBER:
                    return clerk;
                default:
                    return 1;
            }
        }

        private int turn(int cell, int value, State state, int clerk) {
            switch (cell) {
                case DROPS_OF:
                    return office.isMatter(value) ? state.dropsOf(clerk, value) : 0;
                case OFF_FROM:
                    return office.isClerk(value) ? state.farOff(clerk, value) : 0;
                default:
                    return 1 - value;
            }
        }

        private static int join(int cell, int left, int right) {
            switch (cell) {
                case '+':
                    return Math.max(-BOUND, Math.min(BOUND, left + right));
                case '-':
                    return Math.max(-BOUND, Math.min(BOUND, left - right));
                case '*':
                    return (int) Math.max(-BOUND, Math.min(BOUND, (long) left * right));
                case '/':
                    return right == 0 ? 0 : Math.floorDiv(left, right);
                case '<':
                    return left < right ? 1 : 0;
                case '>':
                    return left > right ? 1 : 0;
                case '=':
                    return left == right ? 1 : 0;
                case AND:
                    return left & right;
                case OR:
                    return left | right;
                case MIN:
                    return Math.min(left, right);
                default:
                    return Math.max(left, right);
            }
        }
    }

    /** How drops go from one to another, on any state. */
    private static final class Ways {
        private final Office office;
        private final Mill mill;
        private final int[] dropsAhead = new int[MOST_CLERKS * MOST_MATTERS];

        Ways(Office office, Mill mill) {
            this.office = office;
            this.mill = mill;
        }

        int space(State state, int clerk) {
            return pick(office.rooms, clerk) - pick(state.full, clerk);
        }

        int countFull(State state) {
            int count = 0;
            for (int clerk = 0; clerk < office.clerks; clerk++) {
                if (space(state, clerk) == 0) {
                    count++;
                }
            }
            return count;
        }

        int flow(State state, int clerk, int other, int matter) {
            int most = Math.min(state.dropsOf(clerk, matter), space(state, other));
            // Whatever the SUM tells, nothing can go: it need not be worked out.
            if (most <= 0) {
                return 0;
            }
            return Math.max(0, Math.min(most, mill.worth(office.leaks, state, clerk, other, matter)));
        }

        int passDay(State state) {
            if (state.settled) {
                state.day++;
                return state.moved;
            }
            copy(state.drops, dropsAhead);
            int moved = 0;
            for (int seat = 0; seat < office.seats; seat++) {
                int clerk = state.sitterAt(seat);
                for (int side = -1; side <= 1 && clerk >= 0; side += 2) {
                    int other = state.sitterAt(seat + side);
                    for (int matter = 0; matter < office.matters && other >= 0; matter++) {
                        int much = flow(state, clerk, other, matter);
                        hand(state, clerk, other, matter, much);
                        moved += much;
                    }
                }
            }
            state.day++;
            state.moved = moved;
            state.settled = !office.leaksByDay && isAsAhead(state);
            return moved;
        }

        private boolean isAsAhead(State state) {
            for (int k = 0; k < dropsAhead.length; k++) {
                if (dropsAhead[k] != pick(state.drops, k)) {
                    return false;
                }
            }
            return true;
        }

        private void hand(State state, int clerk, int other, int matter, int much) {
            state.gain(clerk, matter, -much);
            state.gain(other, matter, much);
        }

        /** How many drops went over; NONE when the TEST does not hold. */
        int shake(State state, int giver, int taker) {
            if (mill.worth(office.shakes, state, giver, taker, 0) == 0) {
                return NONE;
            }
            int moved = 0;
            for (int matter = 0; matter < office.matters; matter++) {
                int much = Math.min(state.dropsOf(giver, matter) / 2, space(state, taker));
                hand(state, giver, taker, matter, much);
                moved += much;
            }
            return moved;
        }

        boolean canPour(State state, int clerk, int matter, int much) {
            int spilt = Math.max(0, much - space(state, clerk));
            return state.poolOf(FLOOR, matter) + spilt <= MOST_POOLED;
        }

        int pour(State state, int clerk, int matter, int much) {
            int held = Math.min(much, space(state, clerk));
            state.gain(clerk, matter, held);
            state.addToPool(FLOOR, matter, much - held);
            return much - held;
        }

        int takeFromFloor(State state, int clerk) {
            int taken = 0;
            for (int matter = 0; matter < office.matters; matter++) {
                int much = Math.min(state.poolOf(FLOOR, matter), space(state, clerk));
                state.addToPool(FLOOR, matter, -much);
                state.gain(clerk, matter, much);
                taken += much;
            }
            return taken;
        }
    }

    /** Which seats to change, whom to squeeze, who mops, who could have what to himself. */
    private static final class Plans {
        private final Office office;
        private final Ways ways;
        private final State now;
        private final State trial;
        private final int[] heldOf = new int[MOST_MATTERS];
        private final int[] deskOf = new int[MOST_MATTERS];
        int lessSeat;
        int moreSeat;
        int fewest;

        Plans(Office office, Ways ways, State now, State trial) {
            this.office = office;
            this.ways = ways;
            this.now = now;
            this.trial = trial;
        }

        int powerOf(int clerk) {
            int all = roomOf((1 << office.clerks) - 1);
            int power = 0;
            for (int bits = 0; bits < 1 << office.clerks; bits++) {
                if ((bits >> clerk & 1) == 0) {
                    int others = roomOf(bits);
                    if (2 * others <= all && 2 * (others + pick(office.rooms, clerk)) > all) {
                        power++;
                    }
                }
            }
            return power;
        }

        private int roomOf(int bits) {
            int sum = 0;
            for (int clerk = 0; clerk < office.clerks; clerk++) {
                if ((bits >> clerk & 1) != 0) {
                    sum += pick(office.rooms, clerk);
                }
            }
            return sum;
        }

        boolean findDiscreet(int matter, int days) {
            // A seat changed with itself is no change.
            fewest = countKnowing(0, 0, matter, days);
            boolean found = false;
            for (int one = 0; one < office.seats; one++) {
                for (int other = one + 1; other < office.seats; other++) {
                    // No drop is lost over the days, so one at least goes on to know.
                    if (fewest <= 1) {
                        return found;
                    }
                    if (now.sitterAt(one) < 0 && now.sitterAt(other) < 0) {
                        continue;
                    }
                    int count = countKnowing(one, other, matter, days);
                    if (count < fewest) {
                        found = true;
                        fewest = count;
                        lessSeat = one;
                        moreSeat = other;
                    }
                }
            }
            return found;
        }

        private int countKnowing(int one, int other, int matter, int days) {
            trial.copyRoom(now);
            if (one != other) {
                trial.swap(one, other);
            }
            for (int n = 0; n < days; n++) {
                ways.passDay(trial);
            }
            return Integer.bitCount(trial.knowing(matter));
        }

        int findPressed(int clerk, int matter, int days) {
            // To squeeze the dry changes nothing: the fewest are never among them.
            int idle = 1 << clerk;
            for (int k = 0; k < office.clerks; k++) {
                if (pick(now.full, k) == 0) {
                    idle |= 1 << k;
                }
            }
            for (int many = 0; many < office.clerks; many++) {
                for (int bits = 0; bits < 1 << office.clerks; bits++) {
                    boolean due = (bits & idle) == 0 && Integer.bitCount(bits) == many;
                    if (due && staysUnaware(clerk, matter, days, bits)) {
                        return bits;
                    }
                }
            }
            return NONE;
        }

        private boolean staysUnaware(int clerk, int matter, int days, int squeezed) {
            trial.copyRoom(now);
            for (int k = 0; k < office.clerks; k++) {
                if ((squeezed >> k & 1) != 0) {
                    trial.empty(k, READ);
                }
            }
            for (int n = 0; n < days; n++) {
                ways.passDay(trial);
                if (trial.dropsOf(clerk, matter) > 0) {
                    return false;
                }
            }
            return true;
        }

        int findMops() {
            int spilt = now.pooled(FLOOR);
            for (int many = 0; many <= office.clerks; many++) {
                for (int bits = 0; bits < 1 << office.clerks; bits++) {
                    if (Integer.bitCount(bits) == many && spaceOf(bits) >= spilt) {
                        return bits;
                    }
                }
            }
            return NONE;
        }

        private int spaceOf(int bits) {
            int sum = 0;
            for (int clerk = 0; clerk < office.clerks; clerk++) {
                if ((bits >> clerk & 1) != 0) {
                    sum += ways.space(now, clerk);
                }
            }
            return sum;
        }

        int findDesk(int matter) {
            for (int k = 0; k < office.matters; k++) {
                set(heldOf, k, now.heldOf(k));
            }
            return findDesks(0, 0) ? pick(deskOf, matter) : NONE;
        }

        /** The depth is the matter's number, four at the most. */
        private boolean findDesks(int matter, int taken) {
            if (matter >= office.matters || matter >= MOST_MATTERS) {
                return true;
            }
            for (int clerk = 0; clerk < office.clerks; clerk++) {
                boolean free = (taken >> clerk & 1) == 0;
                if (free && pick(office.rooms, clerk) >= pick(heldOf, matter)) {
                    set(deskOf, matter, clerk);
                    if (findDesks(matter + 1, taken | 1 << clerk)) {
                        return true;
                    }
                }
            }
            return false;
        }
    }

    /** By what is SEEN: from whom a matter could have come, and whom to ask when. */
    private static final class Hunt {
        private final Office office;
        private final Ways ways;
        private final State now;
        private final State trial;
        private final Row seen;
        private final int[] paths = new int[MOST_CLERKS * (DAYS_PLANNED + 1) * MOST_CLERKS];
        int day;
        int clerk;
        int left;

        Hunt(Office office, Ways ways, State now, State trial, Row seen) {
            this.office = office;
            this.ways = ways;
            this.now = now;
            this.trial = trial;
            this.seen = seen;
        }

        boolean areRows(Row tape) {
            if (tape.size == 0 || tape.size % 4 != 0 || tape.size > 4 * MOST_SEEN) {
                return false;
            }
            for (int k = 0; k < tape.size; k += 4) {
                boolean fits = tape.at(k) <= DAYS_PLANNED
                        && office.areThere(tape.at(k + 1), tape.at(k + 2))
                        && tape.at(k + 3) <= MOST_ROOM;
                if (!fits) {
                    return false;
                }
            }
            return true;
        }

        int findSources(int matter, int much) {
            int last = lastSeen();
            if (now.day + last > LAST_DAY) {
                return 0;
            }
            int bits = 0;
            for (int k = 0; k < office.clerks; k++) {
                if (isSource(k, matter, much, last)) {
                    bits |= 1 << k;
                }
            }
            return bits;
        }

        private int lastSeen() {
            int last = 0;
            for (int k = 0; k < seen.size; k += 4) {
                last = Math.max(last, seen.at(k));
            }
            return last;
        }

        private boolean isSource(int source, int matter, int much, int last) {
            if (!ways.canPour(now, source, matter, much)) {
                return false;
            }
            trial.copyRoom(now);
            ways.pour(trial, source, matter, much);
            for (int n = 0; n <= last; n++) {
                if (n > 0) {
                    ways.passDay(trial);
                }
                if (!isAsSeen(n)) {
                    return false;
                }
            }
            return true;
        }

        private boolean isAsSeen(int n) {
            for (int k = 0; k < seen.size; k += 4) {
                boolean onThisDay = seen.at(k) == n;
                if (onThisDay && trial.dropsOf(seen.at(k + 1), seen.at(k + 2)) != seen.at(k + 3)) {
                    return false;
                }
            }
            return true;
        }

        void findTelling(int bits, int matter, int much) {
            int last = Math.min(DAYS_PLANNED, LAST_DAY - now.day);
            for (int k = 0; k < office.clerks; k++) {
                if ((bits >> k & 1) != 0) {
                    tracePath(k, matter, much, last);
                }
            }
            left = MOST_CLERKS + 1;
            for (int n = 0; n <= last; n++) {
                for (int k = 0; k < office.clerks; k++) {
                    int most = mostLeft(bits, n, k);
                    if (most < left) {
                        left = most;
                        day = n;
                        clerk = k;
                    }
                }
            }
        }

        private void tracePath(int source, int matter, int much, int last) {
            trial.copyRoom(now);
            ways.pour(trial, source, matter, much);
            for (int n = 0; n <= last; n++) {
                if (n > 0) {
                    ways.passDay(trial);
                }
                for (int k = 0; k < office.clerks; k++) {
                    set(paths, pathCell(source, n, k), trial.dropsOf(k, matter));
                }
            }
        }

        private static int pathCell(int source, int n, int asked) {
            return (source * (DAYS_PLANNED + 1) + n) * MOST_CLERKS + asked;
        }

        private int mostLeft(int bits, int n, int asked) {
            int most = 0;
            for (int one = 0; one < office.clerks; one++) {
                int alike = 0;
                for (int other = 0; other < office.clerks; other++) {
                    boolean both = (bits >> one & 1) != 0 && (bits >> other & 1) != 0;
                    int due = pick(paths, pathCell(one, n, asked));
                    if (both && pick(paths, pathCell(other, n, asked)) == due) {
                        alike++;
                    }
                }
                most = Math.max(most, alike);
            }
            return most;
        }
    }
}
