import java.util.Arrays;

/** A town whose laws hang in a row on a wall: a new law strikes the oldest. */
public final class NineLaws {
    public static final int NONE = -1;

    private static final int WRONG = -1000000;
    private static final int MINUS_TWO = -2;
    private static final int NO_LAW = 8;
    private static final int MOST_LAWS = 8;
    private static final int MOST_LENGTH = 4;
    private static final int MOST_TURNS = 4;
    private static final int PEOPLE = 4;
    private static final int ALL_PEOPLE = 15;
    private static final int DEEDS = 8;
    private static final int MOST_ENTRIES = 100;
    private static final int MOST_TEXT = 200;
    private static final int MOST_LOOK = 8;
    private static final int MOST_HOLD = 12;

    private final Tape tape;
    private final Rows rows;
    private final LawText lawText;
    private final Parser parser;
    private final Town town;
    private final Makers makers;
    private final Ring ring;
    private final Outlook outlook;
    private final Calm calm;
    private final Siege siege;
    private final State now;
    private final State kept;
    private final int[] deeds;
    private final int[] entries;
    private boolean hasKept;
    private int edition;

    public NineLaws() {
        tape = new Tape();
        rows = new Rows();
        lawText = new LawText();
        parser = new Parser();
        town = new Town(rows, lawText);
        makers = new Makers(rows, town);
        ring = new Ring(rows, town, makers);
        outlook = new Outlook(rows, town, makers);
        calm = new Calm(rows, town, makers);
        siege = new Siege(rows, town, makers);
        now = new State();
        kept = new State();
        deeds = new int[DEEDS];
        entries = new int[MOST_ENTRIES * 4];
    }

    // ---- what the town is told ----

    public int law(int tag, int needs, int bars, int shuts) {
        boolean fine = within(tag, 9) && within(needs, 255) && within(bars, 255) && within(shuts, 15);
        if (!fine || town.lawCount() >= MOST_LAWS) {
            return NONE;
        }
        edition++;
        return town.addLaw(tag, needs, bars, shuts);
    }

    public boolean length(int n) {
        if (n < 1 || n > MOST_LENGTH) {
            return false;
        }
        now.wall = Rows.bareOf(n);
        hasKept = false;
        return true;
    }

    public boolean rota(int n) {
        if (n < 1 || n > MOST_TURNS || n > tape.size()) {
            return false;
        }
        boolean fine = makers.takeRota(tape, n);
        tape.clear();
        if (fine) {
            now.place = 0;
            hasKept = false;
            edition++;
        }
        return fine;
    }

    public boolean kind(int maker, int kind, int law) {
        if (!isPerson(maker) || !within(kind, Makers.TOLD) || (kind == Makers.TOLD && !isLaw(law))) {
            return false;
        }
        makers.setKind(maker, kind, law);
        edition++;
        return true;
    }

    public int feed(int a, int b, int c, int d, int e) {
        if (!tape.hasRoom(20)) {
            return NONE;
        }
        tape.put(a);
        tape.put(b);
        tape.put(c);
        tape.put(d);
        tape.put(e);
        return tape.size();
    }

    public int text(int n) {
        if (n < 1 || n > MOST_TEXT || n > tape.size()) {
            return NONE;
        }
        int answer = parser.readFrom(tape, n);
        tape.clear();
        if (answer > 0) {
            lawText.copyFrom(parser.draft);
            town.forget();
            edition++;
        }
        return answer;
    }

    public boolean deed(int i, int laws) {
        if (i < 0 || i >= DEEDS || !within(laws, 255)) {
            return false;
        }
        deeds[i] = laws;
        return true;
    }

    public boolean seed(int x) {
        if (!within(x, 65535)) {
            return false;
        }
        now.x = x;
        return true;
    }

    // ---- the row as it is now ----

    public int may(int maker) {
        return isPerson(maker) ? town.mayOf(now.wall, maker) : NONE;
    }

    public int at(int place) {
        return rows.lawOn(now.wall, place);
    }

    public int holding() {
        return town.holdingOn(now.wall);
    }

    public int worth(int sort) {
        return isPerson(sort) ? town.worthOf(now.wall, sort) : WRONG;
    }

    public int would(int maker) {
        return isPerson(maker) ? makers.choice(maker, now.wall) : NONE;
    }

    public boolean quiet() {
        return makers.quietOn(now.wall);
    }

    public int lawful(int i) {
        if (i < 0 || i >= DEEDS) {
            return NONE;
        }
        return (deeds[i] & town.holdingOn(now.wall)) == 0 ? 1 : 0;
    }

    // ---- days that are done ----

    public int make(int law) {
        if (law != NONE && !isLaw(law)) {
            return NONE;
        }
        int maker = makers.onTurn(now.place);
        if (law != NONE && (town.mayOf(now.wall, maker) >> law & 1) == 0) {
            return MINUS_TWO;
        }
        return passDay(maker, law == NONE ? NO_LAW : law);
    }

    public int draw(int days) {
        if (days < 1 || days > 100) {
            return NONE;
        }
        int made = 0;
        for (int day = 0; day < days; day++) {
            now.x = (25173 * now.x + 13849) % 65536;
            int maker = now.x % PEOPLE;
            int law = makers.choice(maker, now.wall);
            if (law != NO_LAW) {
                made++;
            }
            passDay(maker, law);
        }
        return made;
    }

    private int passDay(int maker, int law) {
        int fell = NO_LAW;
        if (law != NO_LAW) {
            fell = rows.isFull(now.wall) ? rows.oldestOn(now.wall) : NO_LAW;
            enter(maker, law, fell);
            now.wall = rows.behind(now.wall, law);
        }
        now.days++;
        now.place = makers.placeAfter(now.place);
        return fell;
    }

    private void enter(int maker, int law, int fell) {
        if (now.told < 0 || now.told >= MOST_ENTRIES) {
            return;
        }
        int first = now.told * 4;
        entries[first] = now.days;
        entries[first + 1] = maker;
        entries[first + 2] = law;
        entries[first + 3] = fell;
        now.told++;
    }

    public int book(int i, int what) {
        if (i < 0 || i >= now.told || i >= MOST_ENTRIES || !within(what, 3)) {
            return NONE;
        }
        return entries[i * 4 + what];
    }

    public int check(int n) {
        if (n < 0 || n > tape.size() / 12) {
            return MINUS_TWO;
        }
        int answer = firstUnlike(n);
        tape.clear();
        return answer;
    }

    private int firstUnlike(int n) {
        for (int i = 0; i < 3 * n; i++) {
            int entry = i / 3;
            if (entry >= now.told || entry >= MOST_ENTRIES || entries[entry * 4 + i % 3] != tape.numberOn(i)) {
                return i;
            }
        }
        return now.told > n ? 3 * n : NONE;
    }

    public int keep() {
        kept.copyFrom(now);
        hasKept = true;
        return rows.sizeOf(now.wall);
    }

    public boolean undo() {
        if (!hasKept) {
            return false;
        }
        now.copyFrom(kept);
        return true;
    }

    // ---- days that are only thought of ----

    public int run(int days, int what) {
        boolean fine = within(what, 3) || (what >= 10 && what <= 13) || what == 20;
        if (days < 1 || days > 60 || !fine) {
            return WRONG;
        }
        int wall = now.wall;
        int place = now.place;
        int sum = 0;
        int made = 0;
        for (int day = 0; day < days; day++) {
            int law = makers.choice(makers.onTurn(place), wall);
            wall = rows.behind(wall, law);
            place = makers.placeAfter(place);
            made += law == NO_LAW ? 0 : 1;
            sum += what <= 3 ? town.worthOf(wall, what) : 0;
        }
        if (what == 20) {
            return made;
        }
        return what <= 3 ? sum : rows.lawOn(wall, what - 10);
    }

    public int mean(int what) {
        boolean above = what >= 10 && what <= 13;
        boolean below = what >= 20 && what <= 23;
        if (what != 0 && what != 1 && !above && !below) {
            return WRONG;
        }
        ring.find(now.wall, now.place);
        if (what == 0) {
            return ring.ahead;
        }
        if (what == 1) {
            return ring.days;
        }
        int sum = ring.sumOf(what % 10);
        return reduced(above ? sum : ring.days, sum, ring.days);
    }

    public int number(int sort, int what) {
        if (!isPerson(sort) || !within(what, 2)) {
            return WRONG;
        }
        int bestLength = 0;
        int bestSum = 0;
        int bestDays = 1;
        for (int length = 1; length <= MOST_LENGTH; length++) {
            ring.find(Rows.bareOf(length), 0);
            int sum = ring.sumOf(sort);
            if (bestLength == 0 || (long) sum * bestDays > (long) bestSum * ring.days) {
                bestLength = length;
                bestSum = sum;
                bestDays = ring.days;
            }
        }
        if (what == 0) {
            return bestLength;
        }
        return reduced(what == 1 ? bestSum : bestDays, bestSum, bestDays);
    }

    /** A line of the fraction of above and below, without their common divisor. */
    private static int reduced(int line, int above, int below) {
        int divisor = commonDivisor(above, below);
        return divisor == 0 ? line : line / divisor;
    }

    private static int commonDivisor(int a, int b) {
        int high = Math.abs(a);
        int low = Math.abs(b);
        for (int step = 0; step < 100 && low != 0; step++) {
            int rest = high % low;
            high = low;
            low = rest;
        }
        return high;
    }

    public int best(int maker, int days, int what) {
        if (!isPerson(maker) || days < 1 || days > MOST_LOOK || what < NONE || what >= days) {
            return WRONG;
        }
        outlook.solve(now, days, 1 << maker, edition);
        return what == NONE ? outlook.sumOf(maker) : outlook.madeOn(what);
    }

    public int all(int days, int what) {
        if (days < 1 || days > MOST_LOOK || !(within(what, 3) || (what >= 10 && what < 10 + days))) {
            return WRONG;
        }
        outlook.solve(now, days, ALL_PEOPLE, edition);
        return what <= 3 ? outlook.sumOf(what) : outlook.madeOn(what - 10);
    }

    public int soon(int what) {
        if (what < NONE) {
            return NONE;
        }
        calm.solve(now, edition);
        if (calm.days < 0) {
            return MINUS_TWO;
        }
        return what == NONE ? calm.days : calm.madeOn(what);
    }

    public int held(int a, int b, int makers) {
        if (!isLaw(a) || !isLaw(b) || !within(makers, ALL_PEOPLE)) {
            return NONE;
        }
        return siege.solve(now, 1 << a | 1 << b, makers);
    }

    // ---- all rows there can be ----

    public int bestRow(int sort, int what) {
        int length = rows.lengthOf(now.wall);
        if (sort < NONE || sort >= PEOPLE || what < NONE || what >= length || town.lawCount() < length) {
            return WRONG;
        }
        int bestWall = NONE;
        int most = 0;
        int end = Rows.bareOf(length + 1);
        // walls of one size are numbered in the order of their rows, so the first of like ones is the least
        for (int wall = Rows.firstFullOf(length); wall < end; wall++) {
            if (!town.isOfLaws(wall) || Integer.bitCount(rows.standingOn(wall)) < length) {
                continue;
            }
            int worth = sort == NONE ? worthToAll(wall) : town.worthOf(wall, sort);
            if (bestWall == NONE || worth > most) {
                bestWall = wall;
                most = worth;
            }
        }
        return what == NONE ? most : rows.lawOn(bestWall, what);
    }

    private int worthToAll(int wall) {
        int sum = 0;
        for (int sort = 0; sort < PEOPLE; sort++) {
            sum += town.worthOf(wall, sort);
        }
        return sum;
    }

    public int fits(int n, int what) {
        if (!within(n, 20) || !within(what, 2) || 2 * n > tape.size()) {
            return NONE;
        }
        int answer = toldDeedsAreFine(n) ? reckonFits(n, what) : MINUS_TWO;
        tape.clear();
        return answer;
    }

    private boolean toldDeedsAreFine(int n) {
        for (int i = 0; i < n; i++) {
            if (!within(tape.byteOn(2 * i), DEEDS - 1) || !within(tape.byteOn(2 * i + 1), 1)) {
                return false;
            }
        }
        return true;
    }

    private int reckonFits(int n, int what) {
        int length = rows.lengthOf(now.wall);
        int fitting = 0;
        int inAll = 255;
        int inSome = 0;
        int end = Rows.bareOf(length + 1);
        for (int wall = Rows.firstFullOf(length); wall < end; wall++) {
            if (town.isOfLaws(wall) && fitsTold(town.holdingOn(wall), n)) {
                fitting++;
                inAll &= rows.standingOn(wall);
                inSome |= rows.standingOn(wall);
            }
        }
        if (what == 0 || fitting == 0) {
            return fitting;
        }
        return what == 1 ? inAll : town.allLaws() & ~inSome;
    }

    private boolean fitsTold(int holdingLaws, int n) {
        for (int i = 0; i < n; i++) {
            int deed = tape.byteOn(2 * i);
            if (deed < 0 || deed >= DEEDS) {
                return false;
            }
            int isLawful = (deeds[deed] & holdingLaws) == 0 ? 1 : 0;
            if (isLawful != tape.byteOn(2 * i + 1)) {
                return false;
            }
        }
        return true;
    }

    public int count(int what) {
        switch (what) {
            case 0: return town.lawCount();
            case 1: return rows.sizeOf(now.wall);
            case 2: return rows.lengthOf(now.wall);
            case 3: return lawText.clauseCount();
            case 4: return tape.size();
            case 5: return now.x;
            case 6: return now.days;
            case 7: return now.place;
            case 8: return now.told;
            default: return what >= 10 && what < 10 + MOST_TURNS ? makers.onTurn(what - 10) : NONE;
        }
    }

    private boolean isLaw(int law) {
        return law >= 0 && law < town.lawCount();
    }

    private static boolean isPerson(int who) {
        return who >= 0 && who < PEOPLE;
    }

    private static boolean within(int number, int most) {
        return number >= 0 && number <= most;
    }

    // All towns of a run share one room: what is remembered of a wall stands as small numbers side by side in one long.

    private static int slotOf(long packed, int slot, int bits) {
        return (int) (packed >>> slot * bits) & (1 << bits) - 1;
    }

    /** Only for a slot that is 0 yet. */
    private static long withSlot(long packed, int slot, int bits, int number) {
        return packed | (long) number << slot * bits;
    }

    /** All that is KEPT and UNDONE. */
    private static final class State {
        private int wall = Rows.bareOf(3);
        private int place;
        private int days;
        private int x = 1;
        private int told;

        void copyFrom(State other) {
            wall = other.wall;
            place = other.place;
            days = other.days;
            x = other.x;
            told = other.told;
        }
    }

    private static final class Tape {
        private static final int MOST = 220;

        private final int[] bytes = new int[MOST];
        private int size;

        int size() {
            return size;
        }

        boolean hasRoom(int more) {
            return more <= MOST - size;
        }

        void put(int value) {
            for (int shift = 24; shift >= 0; shift -= 8) {
                if (size >= 0 && size < MOST) {
                    bytes[size] = value >> shift & 255;
                    size++;
                }
            }
        }

        int byteOn(int i) {
            return i >= 0 && i < size && i < MOST ? bytes[i] : NONE;
        }

        int numberOn(int i) {
            int value = 0;
            for (int k = 0; k < 4; k++) {
                value = value << 8 | (byteOn(4 * i + k) & 255);
            }
            return value;
        }

        void clear() {
            size = 0;
        }
    }

    /**
     * A wall is a ROW together with its LENGTH, told as one number, so that it can be an index.
     * From the bare wall of a length on a row counts in eights, its newest LAW last.
     */
    private static final class Rows {
        private static final int ALL = 5348;
        private static final int[] BARE = {0, 0, 9, 82, 667, 5348};

        private static final int OLDEST_SHIFT = 8;
        private static final int SIZE_SHIFT = 12;
        private static final int LENGTH_SHIFT = 16;

        /** Of each wall: which LAWS stand, the oldest, how many stand, the LENGTH. */
        private final int[] looks = new int[ALL];
        private final int[] firstBehind = new int[ALL];

        Rows() {
            for (int length = 1; length <= MOST_LENGTH; length++) {
                listAll(length);
            }
        }

        private void listAll(int length) {
            int bare = bareOf(length);
            int end = bareOf(length + 1);
            for (int wall = bare; wall < end && wall < ALL; wall++) {
                int size = 0;
                int standing = 0;
                int oldest = NO_LAW;
                if (wall > bare) {
                    int newest = (wall - bare - 1) % 8;
                    int before = bare + (wall - bare - 1) / 8;
                    size = sizeOf(before) + 1;
                    standing = standingOn(before) | 1 << newest;
                    oldest = before == bare ? newest : oldestOn(before);
                }
                looks[wall] = standing | oldest << OLDEST_SHIFT | size << SIZE_SHIFT | length << LENGTH_SHIFT;
                int fallen = size == length ? (oldest + 1) << (3 * (length - 1)) : 0;
                firstBehind[wall] = bare + (wall - bare - fallen) * 8 + 1;
            }
        }

        /** The empty wall of a length; that of the length above is the end of the walls of this one. */
        static int bareOf(int length) {
            return length < 0 || length >= BARE.length ? ALL : BARE[length];
        }

        /** The wall with LAW 0 on every place. */
        static int firstFullOf(int length) {
            int wall = bareOf(length);
            for (int size = 0, many = 1; size < length && size < MOST_LENGTH; size++, many *= 8) {
                wall += many;
            }
            return wall;
        }

        int lengthOf(int wall) {
            return wall < 0 || wall >= ALL ? 1 : looks[wall] >> LENGTH_SHIFT;
        }

        int sizeOf(int wall) {
            return wall < 0 || wall >= ALL ? 0 : looks[wall] >> SIZE_SHIFT & 15;
        }

        int standingOn(int wall) {
            return wall < 0 || wall >= ALL ? 0 : looks[wall] & 255;
        }

        int oldestOn(int wall) {
            return wall < 0 || wall >= ALL ? NO_LAW : looks[wall] >> OLDEST_SHIFT & 15;
        }

        boolean isFull(int wall) {
            return sizeOf(wall) == lengthOf(wall);
        }

        int lawOn(int wall, int place) {
            int size = sizeOf(wall);
            if (place < 0 || place >= size) {
                return NONE;
            }
            int row = wall - bareOf(lengthOf(wall));
            for (int newer = size - 1; newer > place; newer--) {
                row = (row - 1) / 8;
            }
            return (row - 1) % 8;
        }

        int timesOn(int wall, int law) {
            int times = 0;
            int row = wall - bareOf(lengthOf(wall));
            for (int left = sizeOf(wall); left > 0; left--) {
                times += (row - 1) % 8 == law ? 1 : 0;
                row = (row - 1) / 8;
            }
            return times;
        }

        /** The wall behind a LAW's making (NO_LAW: the same). */
        int behind(int wall, int law) {
            boolean made = law >= 0 && law < NO_LAW && wall >= 0 && wall < ALL;
            return made ? firstBehind[wall] + law : wall;
        }
    }

    /** THE LAW OF LAWS, as steps over a stack: what stands between two comes behind both. */
    private static final class LawText {
        private static final int MOST_CLAUSES = 14;
        private static final int FACT = 'l';
        private static final int PUSH = '0';
        private static final int MOST_STACK = 40;

        private final int[] steps = new int[MOST_TEXT];
        private final int[] aims = new int[MOST_TEXT];
        private final int[] letters = new int[MOST_CLAUSES];
        private final int[] starts = new int[MOST_CLAUSES];
        private final int[] middles = new int[MOST_CLAUSES];
        private final int[] ends = new int[MOST_CLAUSES];
        private final int[] stack = new int[MOST_STACK];
        private int size;
        private int clauses;

        int clauseCount() {
            return clauses;
        }

        void clear() {
            size = 0;
            clauses = 0;
        }

        void copyFrom(LawText other) {
            System.arraycopy(other.steps, 0, steps, 0, MOST_TEXT);
            System.arraycopy(other.aims, 0, aims, 0, MOST_TEXT);
            System.arraycopy(other.letters, 0, letters, 0, MOST_CLAUSES);
            System.arraycopy(other.starts, 0, starts, 0, MOST_CLAUSES);
            System.arraycopy(other.middles, 0, middles, 0, MOST_CLAUSES);
            System.arraycopy(other.ends, 0, ends, 0, MOST_CLAUSES);
            size = other.size;
            clauses = other.clauses;
        }

        void addClause(int letter, int start, int middle) {
            if (clauses < 0 || clauses >= MOST_CLAUSES) {
                return;
            }
            letters[clauses] = letter;
            starts[clauses] = start;
            middles[clauses] = middle;
            ends[clauses] = size;
            clauses++;
        }

        int stepCount() {
            return size;
        }

        int addStep(int step, int aim) {
            if (size < 0 || size >= MOST_TEXT) {
                return NONE;
            }
            steps[size] = step;
            aims[size] = aim;
            size++;
            return size - 1;
        }

        /** Lets a step that leaves (a | or &) go on from the step that comes next. */
        void aimHere(int step) {
            if (step >= 0 && step < MOST_TEXT) {
                aims[step] = size;
            }
        }

        /** v or m by the facts, within its bounds. */
        int valueOf(int letter, int[] facts) {
            for (int c = 0; c < clauses && c < MOST_CLAUSES; c++) {
                if (letters[c] == letter && reckon(middles[c], ends[c], facts) != 0) {
                    int value = reckon(starts[c], middles[c], facts);
                    return letter == 'v' ? Math.max(-100, Math.min(100, value)) : Math.max(0, Math.min(1, value));
                }
            }
            return 0;
        }

        /** 0 also for what is REFUSED: then a C does not hold and an E is 0. */
        private int reckon(int from, int to, int[] facts) {
            int top = 0;
            for (int i = from; i >= 0 && i < to && i < MOST_TEXT; i++) {
                int step = steps[i];
                int aim = aims[i];
                if (step == PUSH || step == FACT) {
                    if (top >= MOST_STACK || (step == FACT && (aim < 0 || aim >= facts.length))) {
                        return 0;
                    }
                    stack[top] = step == PUSH ? aim : facts[aim];
                    top++;
                } else if (top < 1 || top > MOST_STACK) {
                    return 0;
                } else if (step == '!') {
                    stack[top - 1] = 1 - stack[top - 1];
                } else if (step == '|' || step == '&') {
                    boolean leaves = (stack[top - 1] != 0) == (step == '|');
                    if (leaves) {
                        i = Math.max(i, aim - 1);
                    } else {
                        top--;
                    }
                } else {
                    top--;
                    if (top < 1 || (stack[top] == 0 && (step == '/' || step == '%'))) {
                        return 0;
                    }
                    stack[top - 1] = joined(step, stack[top - 1], stack[top]);
                }
            }
            return top == 1 ? stack[0] : 0;
        }

        private static int joined(int step, int a, int b) {
            switch (step) {
                case '+': return a + b;
                case '-': return a - b;
                case '*': return a * b;
                case '/': return b == 0 ? 0 : a / b;
                case '%': return b == 0 ? 0 : a % b;
                case '<': return a < b ? 1 : 0;
                case '>': return a > b ? 1 : 0;
                default: return a == b ? 1 : 0;
            }
        }
    }

    /** Reads a TEXT into a draft; with a first FAULT nothing more is read. */
    private static final class Parser {
        private static final String FACTS = "lpknshfioyr";
        private static final int DEEPEST = 6;
        private static final int MOST_DIGITS = 5;

        private final int[] signs = new int[MOST_TEXT];
        private final LawText draft = new LawText();
        private int end;
        private int place;
        private int fault;

        /** How many CLAUSES, or the FAULT. */
        int readFrom(Tape tape, int n) {
            end = Math.max(0, Math.min(n, MOST_TEXT));
            place = 0;
            fault = 0;
            for (int i = 0; i < end; i++) {
                signs[i] = tape.byteOn(i);
            }
            draft.clear();
            readClause(0);
            for (int k = 1; k <= LawText.MOST_CLAUSES && fault == 0 && place < end; k++) {
                take(';');
                readClause(k);
            }
            return fault != 0 ? fault : draft.clauseCount();
        }

        private int sign() {
            return place >= 0 && place < end && place < MOST_TEXT ? signs[place] : NONE;
        }

        private void stop(int faultNumber) {
            if (fault == 0) {
                fault = -1000 * faultNumber - place;
            }
        }

        private void take(int wanted) {
            if (fault == 0 && sign() == wanted) {
                place++;
            } else {
                stop(1);
            }
        }

        private void readClause(int k) {
            int letter = sign();
            if (fault != 0 || (letter != 'v' && letter != 'm')) {
                stop(1);
                return;
            }
            if (k >= LawText.MOST_CLAUSES) {
                stop(4);
                return;
            }
            place++;
            int start = draft.stepCount();
            readSum(0);
            int middle = draft.stepCount();
            take('(');
            readAnyOf(1);
            take(')');
            draft.addClause(letter, start, middle);
        }

        /** A C. Each | leaves for the next one of the same C, and the last for its end. */
        private void readAnyOf(int depth) {
            readAllOf(depth);
            int leaving = NONE;
            for (int k = 0; k < MOST_TEXT && fault == 0 && sign() == '|'; k++) {
                place++;
                draft.aimHere(leaving);
                leaving = draft.addStep('|', 0);
                readAllOf(depth);
            }
            draft.aimHere(leaving);
        }

        /** A PART; its & leave as the | of a C do. */
        private void readAllOf(int depth) {
            readPiece(depth);
            int leaving = NONE;
            for (int k = 0; k < MOST_TEXT && fault == 0 && sign() == '&'; k++) {
                place++;
                draft.aimHere(leaving);
                leaving = draft.addStep('&', 0);
                readPiece(depth);
            }
            draft.aimHere(leaving);
        }

        private void readPiece(int depth) {
            if (fault != 0) {
                return;
            }
            if (sign() == '!') {
                if (opens(depth)) {
                    readPiece(depth + 1);
                    draft.addStep('!', 0);
                }
            } else if (sign() == '(') {
                if (opens(depth)) {
                    readAnyOf(depth + 1);
                    take(')');
                }
            } else {
                readComparison(depth);
            }
        }

        private boolean opens(int depth) {
            if (depth >= DEEPEST) {
                stop(5);
                return false;
            }
            place++;
            return true;
        }

        private void readComparison(int depth) {
            readSum(depth);
            int between = sign();
            if (fault != 0 || (between != '<' && between != '>' && between != '=')) {
                stop(1);
                return;
            }
            place++;
            readSum(depth);
            draft.addStep(between, 0);
        }

        /** An E. */
        private void readSum(int depth) {
            readProduct(depth);
            for (int k = 0; k < MOST_TEXT && fault == 0 && (sign() == '+' || sign() == '-'); k++) {
                int between = sign();
                place++;
                readProduct(depth);
                draft.addStep(between, 0);
            }
        }

        /** A TERM. */
        private void readProduct(int depth) {
            readFactor(depth);
            for (int k = 0; k < MOST_TEXT && fault == 0 && isProductSign(sign()); k++) {
                int between = sign();
                place++;
                readFactor(depth);
                draft.addStep(between, 0);
            }
        }

        private static boolean isProductSign(int sign) {
            return sign == '*' || sign == '/' || sign == '%';
        }

        private void readFactor(int depth) {
            if (fault != 0) {
                return;
            }
            int sign = sign();
            if (sign == '[') {
                if (opens(depth)) {
                    readSum(depth + 1);
                    take(']');
                }
            } else if (isDigit(sign)) {
                readDigits();
            } else {
                int fact = sign < 0 ? NONE : FACTS.indexOf((char) sign);
                if (fact < 0) {
                    stop(1);
                    return;
                }
                place++;
                draft.addStep(LawText.FACT, fact);
            }
        }

        private static boolean isDigit(int sign) {
            return sign >= '0' && sign <= '9';
        }

        private void readDigits() {
            int value = 0;
            for (int k = 0; k < MOST_DIGITS && isDigit(sign()); k++) {
                value = value * 10 + sign() - '0';
                place++;
            }
            if (isDigit(sign())) {
                stop(2);
            }
            draft.addStep(LawText.PUSH, value);
        }
    }

    /** The LAWS, and what each wall is worth to whom and who MAY make what on it, each reckoned once. */
    private static final class Town {
        private final Rows rows;
        private final LawText lawText;
        private static final int BITS = 16;
        private static final int WORTH_SHIFT = 1000;

        private final int[] tags = new int[MOST_LAWS];
        private final int[] needs = new int[MOST_LAWS];
        private final int[] bars = new int[MOST_LAWS];
        private final int[] shuts = new int[MOST_LAWS];
        private final int[] facts = new int[11];
        /** A slot for each SORT or MAKER; in it 0 as long as it is not reckoned. */
        private final long[] worths = new long[Rows.ALL];
        private final long[] mays = new long[Rows.ALL];
        private int laws;
        private boolean stale;

        Town(Rows rows, LawText lawText) {
            this.rows = rows;
            this.lawText = lawText;
        }

        int lawCount() {
            return laws;
        }

        int allLaws() {
            return (1 << laws) - 1;
        }

        boolean isOfLaws(int wall) {
            return (rows.standingOn(wall) & ~allLaws()) == 0;
        }

        int addLaw(int tag, int needed, int barred, int shut) {
            if (laws < 0 || laws >= MOST_LAWS) {
                return NONE;
            }
            tags[laws] = tag;
            needs[laws] = needed;
            bars[laws] = barred;
            shuts[laws] = shut;
            laws++;
            forget();
            return laws - 1;
        }

        void forget() {
            stale = true;
        }

        private void freshen() {
            if (stale) {
                Arrays.fill(worths, 0);
                Arrays.fill(mays, 0);
                stale = false;
            }
        }

        int holdingOn(int wall) {
            int standing = rows.standingOn(wall);
            int holding = 0;
            for (int law = 0; law < MOST_LAWS; law++) {
                if ((standing >> law & 1) == 1 && (needs[law] & ~standing) == 0) {
                    holding |= 1 << law;
                }
            }
            return holding;
        }

        int worthOf(int wall, int sort) {
            if (wall < 0 || wall >= worths.length || !isPerson(sort)) {
                return 0;
            }
            freshen();
            int known = slotOf(worths[wall], sort, BITS);
            if (known != 0) {
                return known - WORTH_SHIFT;
            }
            int sum = 0;
            int size = rows.sizeOf(wall);
            for (int place = 0; place < size; place++) {
                describe(wall, rows.lawOn(wall, place), place, sort);
                sum += lawText.valueOf('v', facts);
            }
            worths[wall] = withSlot(worths[wall], sort, BITS, sum + WORTH_SHIFT);
            return sum;
        }

        int valueOfOldest(int wall, int sort) {
            describe(wall, rows.oldestOn(wall), 0, sort);
            return lawText.valueOf('v', facts);
        }

        /** LAWS that a MAKER MAY make on a wall, as bits. */
        int mayOf(int wall, int maker) {
            if (wall < 0 || wall >= mays.length || !isPerson(maker)) {
                return 0;
            }
            freshen();
            int known = slotOf(mays[wall], maker, BITS);
            if (known != 0) {
                return known - 1;
            }
            int open = openTo(wall, maker);
            int canMake = 0;
            for (int law = 0; law < laws; law++) {
                if ((open >> law & 1) == 1) {
                    describe(wall, law, 0, maker);
                    canMake |= lawText.valueOf('m', facts) << law;
                }
            }
            mays[wall] = withSlot(mays[wall], maker, BITS, canMake + 1);
            return canMake;
        }

        /** LAWS that no LAW that HOLDS keeps from this MAKER. */
        private int openTo(int wall, int maker) {
            int holding = holdingOn(wall);
            int open = allLaws();
            for (int law = 0; law < MOST_LAWS; law++) {
                if ((holding >> law & 1) == 1) {
                    open &= (shuts[law] >> maker & 1) == 1 ? 0 : ~bars[law];
                }
            }
            return open;
        }

        /** Fills in the letters of a FACTOR, as they stand in Parser.FACTS. */
        private void describe(int wall, int law, int place, int who) {
            if (law < 0 || law >= MOST_LAWS) {
                return;
            }
            int size = rows.sizeOf(wall);
            int standing = rows.standingOn(wall);
            facts[0] = law;
            facts[1] = who;
            facts[2] = tags[law];
            facts[3] = size;
            facts[4] = rows.timesOn(wall, law);
            facts[5] = (standing >> law & 1) == 1 && (needs[law] & ~standing) == 0 ? 1 : 0;
            facts[6] = size == rows.lengthOf(wall) ? 1 : 0;
            facts[7] = place;
            facts[8] = rows.oldestOn(wall);
            facts[9] = size == 0 ? NO_LAW : rows.lawOn(wall, size - 1);
            facts[10] = rows.lengthOf(wall);
        }
    }

    /** KINDS and THE ROTA. */
    private static final class Makers {
        private static final int STILL = 0;
        private static final int WANT = 1;
        private static final int KEEP = 2;
        private static final int PUSH = 3;
        private static final int TOLD = 4;
        private static final int LEAST = -1000000000;

        private final Rows rows;
        private final Town town;
        private final int[] kinds = new int[PEOPLE];
        private final int[] toldLaws = new int[PEOPLE];
        private final int[] turns = new int[MOST_TURNS];
        private int turnCount = 1;

        Makers(Rows rows, Town town) {
            this.rows = rows;
            this.town = town;
        }

        void setKind(int maker, int newKind, int law) {
            if (isPerson(maker)) {
                kinds[maker] = newKind;
                toldLaws[maker] = law;
            }
        }

        boolean takeRota(Tape tape, int n) {
            for (int i = 0; i < n; i++) {
                if (!isPerson(tape.byteOn(i))) {
                    return false;
                }
            }
            for (int i = 0; i < n && i < MOST_TURNS; i++) {
                turns[i] = tape.byteOn(i);
            }
            turnCount = n;
            return true;
        }

        /** NONE: THE ROTA has no such PLACE. */
        int onTurn(int place) {
            return place >= 0 && place < turnCount && place < MOST_TURNS ? turns[place] : NONE;
        }

        int placeAfter(int place) {
            return place + 1 < turnCount ? place + 1 : 0;
        }

        int placeAfterDays(int place, int days) {
            return turnCount < 1 ? 0 : (place + days) % turnCount;
        }

        boolean quietOn(int wall) {
            for (int i = 0; i < turnCount && i < MOST_TURNS; i++) {
                if (town.mayOf(wall, turns[i]) != 0) {
                    return false;
                }
            }
            return true;
        }

        /** What a MAKER makes by its KIND (NO_LAW: none). */
        int choice(int maker, int wall) {
            int kind = isPerson(maker) ? kinds[maker] : STILL;
            if (kind == STILL) {
                return NO_LAW;
            }
            int canMake = town.mayOf(wall, maker);
            if (kind == TOLD) {
                int told = toldLaws[maker] & 7;
                return ((canMake & ~rows.standingOn(wall)) >> told & 1) == 1 ? told : NO_LAW;
            }
            if (kind == KEEP || kind == PUSH) {
                int value = rows.isFull(wall) ? town.valueOfOldest(wall, maker) : 0;
                int oldest = rows.oldestOn(wall);
                if (kind == KEEP) {
                    return value > 0 && (canMake >> oldest & 1) == 1 ? oldest : NO_LAW;
                }
                if (value >= 0) {
                    return NO_LAW;
                }
            }
            int wanted = NO_LAW;
            int most = kind == WANT ? town.worthOf(wall, maker) : LEAST;
            for (int law = 0; law < MOST_LAWS; law++) {
                int worth = (canMake >> law & 1) == 1 ? town.worthOf(rows.behind(wall, law), maker) : LEAST;
                if (worth > most) {
                    wanted = law;
                    most = worth;
                }
            }
            return wanted;
        }
    }

    /** MEAN: the days ahead of the ring, and the ring. A state is a wall and a PLACE, told as one number. */
    private static final class Ring {
        private static final int MOST_STEPS = 1000000;

        private final Rows rows;
        private final Town town;
        private final Makers makers;
        private int ahead;
        private int days = 1;
        private int firstState;

        Ring(Rows rows, Town town, Makers makers) {
            this.rows = rows;
            this.town = town;
            this.makers = makers;
        }

        /** One waits, further on each time, while the other goes round; then two go at the ring's distance (Brent). */
        void find(int startWall, int startPlace) {
            int start = startWall * MOST_TURNS + startPlace;
            int waiting = start;
            int going = stateAfter(start);
            int patience = 1;
            days = 1;
            for (int k = 0; k < MOST_STEPS && going != waiting; k++) {
                if (days == patience) {
                    waiting = going;
                    patience *= 2;
                    days = 0;
                }
                going = stateAfter(going);
                days++;
            }
            going = start;
            for (int day = 0; day < days; day++) {
                going = stateAfter(going);
            }
            firstState = start;
            ahead = 0;
            for (int k = 0; k < MOST_STEPS && going != firstState; k++) {
                going = stateAfter(going);
                firstState = stateAfter(firstState);
                ahead++;
            }
        }

        private int stateAfter(int state) {
            int place = state % MOST_TURNS;
            int wall = state / MOST_TURNS;
            int law = makers.choice(makers.onTurn(place), wall);
            return rows.behind(wall, law) * MOST_TURNS + makers.placeAfter(place);
        }

        /** WORTH in the ring that was found, once round. */
        int sumOf(int sort) {
            int sum = 0;
            int state = firstState;
            for (int day = 0; day < days; day++) {
                state = stateAfter(state);
                sum += town.worthOf(state / MOST_TURNS, sort);
            }
            return sum;
        }
    }

    /** BEST and ALL LOOK AHEAD: on its DAY a MAKER that looks takes what gives it most, another goes by its KIND. */
    private static final class Outlook {
        private final Rows rows;
        private final Town town;
        private final Makers makers;
        private static final int PICK_BITS = 4;
        private static final int TOTAL_BITS = 16;
        private static final int TOTAL_SHIFT = 10000;

        /** A slot for so many days left; in it 0 as long as it is not reckoned, else 1 more than the LAW. */
        private final long[] picks = new long[Rows.ALL];
        /** Of a wall with so many days left: a slot for each SORT. */
        private final long[] totals = new long[Rows.ALL * MOST_LOOK];
        private final int[] made = new int[MOST_LOOK];
        private final int[] sums = new int[PEOPLE];
        private int lookers;
        private int askedEdition = NONE;
        private int askedLength;
        private int askedEndPlace;

        Outlook(Rows rows, Town town, Makers makers) {
            this.rows = rows;
            this.town = town;
            this.makers = makers;
        }

        int madeOn(int day) {
            return day >= 0 && day < MOST_LOOK ? made[day] : NONE;
        }

        int sumOf(int sort) {
            return isPerson(sort) ? sums[sort] : 0;
        }

        void solve(State from, int days, int newLookers, int edition) {
            recall(rows.lengthOf(from.wall), makers.placeAfterDays(from.place, days), newLookers, edition);
            int pick = pickOn(from.wall, from.place, days);
            int next = rows.behind(from.wall, pick);
            look(next, makers.placeAfter(from.place), days - 1);
            for (int sort = 0; sort < PEOPLE; sort++) {
                sums[sort] = totalOf(next, days - 1, sort);
            }
            tell(pick, next, days);
        }

        /** What was reckoned holds on for questions whose days end on the same PLACE: wall and days left say all. */
        private void recall(int length, int endPlace, int newLookers, int edition) {
            boolean sameTown = askedEdition == edition && askedLength == length;
            if (sameTown && askedEndPlace == endPlace && lookers == newLookers) {
                return;
            }
            askedEdition = edition;
            askedLength = length;
            askedEndPlace = endPlace;
            lookers = newLookers;
            Arrays.fill(picks, Rows.bareOf(length), Rows.bareOf(length + 1), 0);
        }

        private void tell(int firstPick, int secondWall, int days) {
            made[0] = firstPick;
            int wall = secondWall;
            for (int day = 1; day < days && day < MOST_LOOK; day++) {
                made[day] = wall < 0 || wall >= picks.length ? NO_LAW : slotOf(picks[wall], days - day, PICK_BITS) - 1;
                wall = rows.behind(wall, made[day]);
            }
        }

        private int totalOf(int wall, int left, int sort) {
            int cell = wall * MOST_LOOK + left;
            if (left < 0 || cell < 0 || cell >= totals.length) {
                return 0;
            }
            return slotOf(totals[cell], sort, TOTAL_BITS) - TOTAL_SHIFT;
        }

        /** Reckons what the day that ends with this wall and the days left behind it are worth together. */
        private void look(int wall, int place, int left) {
            int cell = wall * MOST_LOOK + left;
            if (left < 0 || left >= MOST_LOOK || wall < 0 || wall >= picks.length || cell >= totals.length) {
                return;
            }
            if (slotOf(picks[wall], left, PICK_BITS) != 0) {
                return;
            }
            int pick = left == 0 ? NO_LAW : pickOn(wall, place, left);
            int next = rows.behind(wall, pick);
            look(next, makers.placeAfter(place), left - 1);
            long packed = 0;
            for (int sort = 0; sort < PEOPLE; sort++) {
                int total = town.worthOf(wall, sort) + totalOf(next, left - 1, sort);
                packed = withSlot(packed, sort, TOTAL_BITS, total + TOTAL_SHIFT);
            }
            totals[cell] = packed;
            picks[wall] = withSlot(picks[wall], left, PICK_BITS, pick + 1);
        }

        /** What is made today, so many days being left with this one. */
        private int pickOn(int wall, int place, int left) {
            int maker = makers.onTurn(place);
            if (!isPerson(maker) || (lookers >> maker & 1) == 0) {
                return makers.choice(maker, wall);
            }
            int nextPlace = makers.placeAfter(place);
            int canMake = town.mayOf(wall, maker);
            look(wall, nextPlace, left - 1);
            int pick = NO_LAW;
            int most = totalOf(wall, left - 1, maker);
            for (int law = 0; law < MOST_LAWS; law++) {
                if ((canMake >> law & 1) == 1) {
                    int next = rows.behind(wall, law);
                    look(next, nextPlace, left - 1);
                    int total = totalOf(next, left - 1, maker);
                    if (total > most) {
                        pick = law;
                        most = total;
                    }
                }
            }
            return pick;
        }
    }

    /**
     * HOW SOON: what can be come to waits in the order in which it is come to, so that the first QUIET one has the
     * least row of LAWS of those that are soonest.
     */
    private static final class Calm {
        private static final int MOST = Rows.ALL * MOST_TURNS;
        private static final int BITS = 16;
        private static final int WALL = 0;
        private static final int PLACE = 1;
        private static final int MADE = 2;
        private static final int BEFORE = 3;

        private final Rows rows;
        private final Town town;
        private final Makers makers;
        /** A wall with a PLACE, what was made to come to it, and the index of what it was made on. */
        private final long[] waiting = new long[MOST];
        /** The PLACES with which a wall was come to, as bits. */
        private final int[] seen = new int[Rows.ALL];
        private int found;
        private int quietOne;
        private int days;
        private int askedEdition = NONE;
        private int askedWall;
        private int askedPlace;

        Calm(Rows rows, Town town, Makers makers) {
            this.rows = rows;
            this.town = town;
            this.makers = makers;
        }

        void solve(State from, int edition) {
            if (askedEdition == edition && askedWall == from.wall && askedPlace == from.place) {
                return;
            }
            askedEdition = edition;
            askedWall = from.wall;
            askedPlace = from.place;
            int length = rows.lengthOf(from.wall);
            Arrays.fill(seen, Rows.bareOf(length), Rows.bareOf(length + 1), 0);
            found = 0;
            quietOne = NONE;
            comeTo(from.wall, from.place, NO_LAW, 0);
            for (int i = 0; i < found && i < MOST && quietOne < 0; i++) {
                int wall = slotOf(waiting[i], WALL, BITS);
                int place = slotOf(waiting[i], PLACE, BITS);
                int canMake = town.mayOf(wall, makers.onTurn(place));
                int nextPlace = makers.placeAfter(place);
                comeTo(wall, nextPlace, NO_LAW, i);
                for (int law = 0; law < MOST_LAWS; law++) {
                    if ((canMake >> law & 1) == 1) {
                        comeTo(rows.behind(wall, law), nextPlace, law, i);
                    }
                }
            }
            days = quietOne < 0 ? NONE : daysTo(quietOne);
        }

        private void comeTo(int wall, int place, int law, int before) {
            if (quietOne >= 0 || found < 0 || found >= MOST || wall < 0 || wall >= seen.length) {
                return;
            }
            if ((seen[wall] >> place & 1) == 1) {
                return;
            }
            seen[wall] |= 1 << place;
            if (makers.quietOn(wall)) {
                quietOne = found;
            }
            long one = withSlot(withSlot(0, WALL, BITS, wall), PLACE, BITS, place);
            waiting[found] = withSlot(withSlot(one, MADE, BITS, law), BEFORE, BITS, before);
            found++;
        }

        private int daysTo(int one) {
            int many = 0;
            int i = one;
            while (i > 0 && i < MOST && many < MOST) {
                i = slotOf(waiting[i], BEFORE, BITS);
                many++;
            }
            return many;
        }

        /** NONE: no such DAY. */
        int madeOn(int day) {
            if (day < 0 || day >= days) {
                return NONE;
            }
            int one = quietOne;
            for (int later = days - 1; later > day && one >= 0 && one < MOST; later--) {
                one = slotOf(waiting[one], BEFORE, BITS);
            }
            return one >= 0 && one < MOST ? slotOf(waiting[one], MADE, BITS) : NONE;
        }
    }

    /** HELD: friends take what holds longest, the others what holds shortest. */
    private static final class Siege {
        private final Rows rows;
        private final Town town;
        private final Makers makers;
        private static final int BITS = 4;

        /** A slot for so many days left; in it 0 as long as it is not reckoned, else 1 more than the days held. */
        private final long[] spans = new long[Rows.ALL];
        private int wanted;
        private int friends;

        Siege(Rows rows, Town town, Makers makers) {
            this.rows = rows;
            this.town = town;
            this.makers = makers;
        }

        int solve(State from, int laws, int newFriends) {
            wanted = laws;
            friends = newFriends;
            int length = rows.lengthOf(from.wall);
            Arrays.fill(spans, Rows.bareOf(length), Rows.bareOf(length + 1), 0);
            return spanFrom(from.wall, from.place, MOST_HOLD);
        }

        /** Goes as deep as days are left. */
        private int spanFrom(int wall, int place, int left) {
            if (left < 1 || left > MOST_HOLD || wall < 0 || wall >= spans.length) {
                return 0;
            }
            int known = slotOf(spans[wall], left - 1, BITS);
            if (known != 0) {
                return known - 1;
            }
            int maker = makers.onTurn(place);
            boolean isFriend = isPerson(maker) && (friends >> maker & 1) == 1;
            int enough = isFriend ? left : 0;
            int canMake = town.mayOf(wall, maker);
            int nextPlace = makers.placeAfter(place);
            int span = spanBehind(wall, nextPlace, left);
            for (int law = 0; law < MOST_LAWS && span != enough; law++) {
                if ((canMake >> law & 1) == 1) {
                    int other = spanBehind(rows.behind(wall, law), nextPlace, left);
                    span = isFriend ? Math.max(span, other) : Math.min(span, other);
                }
            }
            spans[wall] = withSlot(spans[wall], left - 1, BITS, span + 1);
            return span;
        }

        private int spanBehind(int wall, int nextPlace, int left) {
            boolean stand = (rows.standingOn(wall) & wanted) == wanted;
            return stand ? 1 + spanFrom(wall, nextPlace, left - 1) : 0;
        }
    }
}
