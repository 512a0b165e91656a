import java.math.BigInteger;
import java.util.ArrayList;
import java.util.Arrays;
import java.util.HashMap;
import java.util.HashSet;
import java.util.List;
import java.util.Map;
import java.util.Set;

/**
 * The document once more, slowly and with the Java library: rows are lists, THE LAW OF LAWS is read anew from its
 * text each time, and nothing is shared with NineLaws, so that RandomRuns can hold the two against each other.
 */
final class Model {
    private static final int WRONG = -1000000;

    /** What is divided by 0. */
    private static final class Refused extends RuntimeException {
        private static final long serialVersionUID = 1L;

        Refused() {
            super(null, null, false, false);
        }
    }

    private record Clause(char letter, String e, String c) { }

    private record Plan(long[] worth, List<Integer> made) { }

    private record Entry(int day, int who, int which, int fell) { }

    private record Kept(List<Integer> row, int place, int days, int x, int told) { }

    private final List<Integer> tape = new ArrayList<>();
    private final List<int[]> laws = new ArrayList<>();
    private List<Clause> clauses = new ArrayList<>();
    private int length = 3;
    private List<Integer> row = new ArrayList<>();
    private int[] rota = {0};
    private int place;
    private int days;
    private int x = 1;
    private final int[] kinds = new int[4];
    private final int[] told = new int[4];
    private final int[] deeds = new int[8];
    private final List<Entry> book = new ArrayList<>();
    private Kept kept;

    // ---- being told ----

    int law(int tag, int needs, int bars, int shuts) {
        if (tag < 0 || tag > 9 || needs < 0 || needs > 255 || bars < 0 || bars > 255 || shuts < 0 || shuts > 15) {
            return -1;
        }
        if (laws.size() == 8) {
            return -1;
        }
        laws.add(new int[] {tag, needs, bars, shuts});
        return laws.size() - 1;
    }

    boolean length(int n) {
        if (n < 1 || n > 4) {
            return false;
        }
        length = n;
        row = new ArrayList<>();
        kept = null;
        return true;
    }

    boolean rota(int n) {
        if (n < 1 || n > 4 || tape.size() < n) {
            return false;
        }
        List<Integer> first = new ArrayList<>(tape.subList(0, n));
        tape.clear();
        for (int who : first) {
            if (who > 3) {
                return false;
            }
        }
        rota = first.stream().mapToInt(i -> i).toArray();
        place = 0;
        kept = null;
        return true;
    }

    boolean kind(int maker, int kind, int law) {
        if (maker < 0 || maker > 3 || kind < 0 || kind > 4) {
            return false;
        }
        if (kind == 4 && (law < 0 || law >= laws.size())) {
            return false;
        }
        kinds[maker] = kind;
        told[maker] = law;
        return true;
    }

    int feed(int a, int b, int c, int d, int e) {
        if (tape.size() + 20 > 220) {
            return -1;
        }
        for (int number : new int[] {a, b, c, d, e}) {
            tape.add(number >>> 24);
            tape.add(number >>> 16 & 255);
            tape.add(number >>> 8 & 255);
            tape.add(number & 255);
        }
        return tape.size();
    }

    int text(int n) {
        if (n < 1 || n > 200 || tape.size() < n) {
            return -1;
        }
        StringBuilder signs = new StringBuilder();
        for (int b : tape.subList(0, n)) {
            signs.append((char) b);
        }
        tape.clear();
        int fault = faultOf(signs.toString());
        if (fault != 0) {
            return fault;
        }
        clauses = new ArrayList<>();
        for (String clause : signs.toString().split(";")) {
            int open = clause.indexOf('(');
            clauses.add(new Clause(clause.charAt(0), clause.substring(1, open),
                    clause.substring(open + 1, clause.length() - 1)));
        }
        return clauses.size();
    }

    boolean deed(int i, int lawBits) {
        if (i < 0 || i > 7 || lawBits < 0 || lawBits > 255) {
            return false;
        }
        deeds[i] = lawBits;
        return true;
    }

    boolean seed(int newX) {
        if (newX < 0 || newX > 65535) {
            return false;
        }
        x = newX;
        return true;
    }

    // ---- faults: sign by sign, with the open ones on a stack ----

    private enum Mode { LETTER, OPERAND, PIECE, DIGITS, AFTER, PIECE_DONE, CLOSED }

    static int faultOf(String text) {
        Mode mode = Mode.LETTER;
        StringBuilder open = new StringBuilder();
        int begun = 0;
        int digits = 0;
        boolean right = false;
        for (int i = 0; i <= text.length(); i++) {
            if (i == text.length()) {
                return mode == Mode.CLOSED ? 0 : -1000 - i;
            }
            char c = text.charAt(i);
            boolean digit = c >= '0' && c <= '9';
            if (mode == Mode.DIGITS) {
                if (digit) {
                    digits++;
                    if (digits > 5) {
                        return -2000 - i;
                    }
                    continue;
                }
                mode = Mode.AFTER;
            }
            if (mode == Mode.LETTER) {
                if (c != 'v' && c != 'm') {
                    return -1000 - i;
                }
                begun++;
                if (begun > 14) {
                    return -4000 - i;
                }
                mode = Mode.OPERAND;
                continue;
            }
            if (mode == Mode.CLOSED) {
                if (c != ';') {
                    return -1000 - i;
                }
                mode = Mode.LETTER;
                continue;
            }
            if (mode == Mode.PIECE || mode == Mode.OPERAND) {
                boolean opens = c == '[' || (mode == Mode.PIECE && (c == '!' || c == '('));
                if (opens) {
                    if (open.length() == 6) {
                        return -5000 - i;
                    }
                    open.append(c);
                    if (mode == Mode.PIECE) {
                        right = false;
                    }
                    mode = c == '[' ? Mode.OPERAND : Mode.PIECE;
                    continue;
                }
                if (!digit && "lpknshfioyr".indexOf(c) < 0) {
                    return -1000 - i;
                }
                if (mode == Mode.PIECE) {
                    right = false;
                }
                digits = 1;
                mode = digit ? Mode.DIGITS : Mode.AFTER;
                continue;
            }
            char inner = open.length() == 0 ? ' ' : open.charAt(open.length() - 1);
            if (mode == Mode.AFTER && "+-*/%".indexOf(c) >= 0) {
                mode = Mode.OPERAND;
            } else if (mode == Mode.AFTER && inner == '[') {
                if (c != ']') {
                    return -1000 - i;
                }
                open.setLength(open.length() - 1);
            } else if (mode == Mode.AFTER && inner == ' ') {
                if (c != '(') {
                    return -1000 - i;
                }
                open.append('(');
                mode = Mode.PIECE;
            } else if (mode == Mode.AFTER && !right) {
                if ("<>=".indexOf(c) < 0) {
                    return -1000 - i;
                }
                right = true;
                mode = Mode.OPERAND;
            } else if (c == '&' || c == '|' || c == ')') {
                while (open.charAt(open.length() - 1) == '!') {
                    open.setLength(open.length() - 1);
                }
                mode = Mode.PIECE;
                if (c == ')') {
                    open.setLength(open.length() - 1);
                    mode = open.length() == 0 ? Mode.CLOSED : Mode.PIECE_DONE;
                }
            } else {
                return -1000 - i;
            }
        }
        return 0;
    }

    // ---- THE LAW OF LAWS ----

    private Map<Character, Integer> facts(List<Integer> r, int law, int person, int i) {
        Map<Character, Integer> facts = new HashMap<>();
        int times = 0;
        for (int other : r) {
            times += other == law ? 1 : 0;
        }
        facts.put('l', law);
        facts.put('p', person);
        facts.put('k', laws.get(law)[0]);
        facts.put('n', r.size());
        facts.put('s', times);
        facts.put('h', (holdingOf(r) >> law & 1));
        facts.put('f', r.size() == length ? 1 : 0);
        facts.put('i', i);
        facts.put('o', r.isEmpty() ? 8 : r.get(0));
        facts.put('y', r.isEmpty() ? 8 : r.get(r.size() - 1));
        facts.put('r', length);
        return facts;
    }

    private int first(char letter, Map<Character, Integer> facts) {
        for (Clause clause : clauses) {
            if (clause.letter() != letter) {
                continue;
            }
            boolean holds;
            try {
                holds = anyOf(clause.c(), facts);
            } catch (Refused r) {
                holds = false;
            }
            if (holds) {
                try {
                    return sum(clause.e(), facts);
                } catch (Refused r) {
                    return 0;
                }
            }
        }
        return 0;
    }

    /** Where the last of some signs stands that is in no bracket; -1: nowhere. */
    private static int lastOf(String s, String signs) {
        int depth = 0;
        for (int i = s.length() - 1; i >= 0; i--) {
            char c = s.charAt(i);
            if (c == ']' || c == ')') {
                depth++;
            } else if (c == '[' || c == '(') {
                depth--;
            } else if (depth == 0 && signs.indexOf(c) >= 0) {
                return i;
            }
        }
        return -1;
    }

    private static List<String> split(String s, char between) {
        List<String> all = new ArrayList<>();
        int depth = 0;
        int from = 0;
        for (int i = 0; i < s.length(); i++) {
            char c = s.charAt(i);
            if (c == '[' || c == '(') {
                depth++;
            } else if (c == ']' || c == ')') {
                depth--;
            } else if (depth == 0 && c == between) {
                all.add(s.substring(from, i));
                from = i + 1;
            }
        }
        all.add(s.substring(from));
        return all;
    }

    private boolean anyOf(String c, Map<Character, Integer> facts) {
        for (String part : split(c, '|')) {
            boolean all = true;
            for (String piece : split(part, '&')) {
                if (!piece(piece, facts)) {
                    all = false;
                    break;
                }
            }
            if (all) {
                return true;
            }
        }
        return false;
    }

    private boolean piece(String s, Map<Character, Integer> facts) {
        if (s.charAt(0) == '!') {
            return !piece(s.substring(1), facts);
        }
        if (s.charAt(0) == '(') {
            return anyOf(s.substring(1, s.length() - 1), facts);
        }
        int between = lastOf(s, "<>=");
        int left = sum(s.substring(0, between), facts);
        int rightSide = sum(s.substring(between + 1), facts);
        return switch (s.charAt(between)) {
            case '<' -> left < rightSide;
            case '>' -> left > rightSide;
            default -> left == rightSide;
        };
    }

    private int sum(String s, Map<Character, Integer> facts) {
        int between = lastOf(s, "+-");
        if (between < 0) {
            between = lastOf(s, "*/%");
        }
        if (between < 0) {
            char c = s.charAt(0);
            if (c == '[') {
                return sum(s.substring(1, s.length() - 1), facts);
            }
            return Character.isDigit(c) ? Integer.parseInt(s) : facts.get(c);
        }
        int left = sum(s.substring(0, between), facts);
        int rightSide = sum(s.substring(between + 1), facts);
        switch (s.charAt(between)) {
            case '+': return left + rightSide;
            case '-': return left - rightSide;
            case '*': return left * rightSide;
            default:
                if (rightSide == 0) {
                    throw new Refused();
                }
                return s.charAt(between) == '/' ? left / rightSide : left % rightSide;
        }
    }

    // ---- rows ----

    private int bitsOf(List<Integer> r) {
        int bits = 0;
        for (int law : r) {
            bits |= 1 << law;
        }
        return bits;
    }

    private int holdingOf(List<Integer> r) {
        int standing = bitsOf(r);
        int bits = 0;
        for (int law : r) {
            if ((laws.get(law)[1] & standing) == laws.get(law)[1]) {
                bits |= 1 << law;
            }
        }
        return bits;
    }

    private final Map<String, Integer> vMemo = new HashMap<>();

    private int v(List<Integer> r, int i, int sort) {
        return Math.max(-100, Math.min(100, first('v', facts(r, r.get(i), sort, i))));
    }

    private int worthOf(List<Integer> r, int sort) {
        return vMemo.computeIfAbsent(length + ":" + r + ":" + sort, key -> {
            int sum = 0;
            for (int i = 0; i < r.size(); i++) {
                sum += v(r, i, sort);
            }
            return sum;
        });
    }

    private final Map<String, Integer> mMemo = new HashMap<>();

    private int mayOf(List<Integer> r, int maker) {
        return mMemo.computeIfAbsent(length + ":" + r + ":" + maker, key -> {
            int bits = 0;
            int holding = holdingOf(r);
            for (int law = 0; law < laws.size(); law++) {
                boolean free = true;
                for (int other = 0; other < laws.size(); other++) {
                    if ((holding >> other & 1) == 1) {
                        boolean bars = (laws.get(other)[2] >> law & 1) == 1;
                        boolean shuts = (laws.get(other)[3] >> maker & 1) == 1;
                        free &= !bars && !shuts;
                    }
                }
                if (free && first('m', facts(r, law, maker, 0)) > 0) {
                    bits |= 1 << law;
                }
            }
            return bits;
        });
    }

    /** Memos live for one call: what they were reckoned with may change between two. */
    void forget() {
        vMemo.clear();
        mMemo.clear();
    }

    /** 8 and -1: none is made. */
    private List<Integer> behind(List<Integer> r, int law) {
        if (law < 0 || law > 7) {
            return r;
        }
        List<Integer> next = new ArrayList<>(r);
        if (next.size() == length) {
            next.remove(0);
        }
        next.add(law);
        return next;
    }

    private List<Integer> lawsIn(int bits) {
        List<Integer> all = new ArrayList<>();
        for (int law = 0; law < 8; law++) {
            if ((bits >> law & 1) == 1) {
                all.add(law);
            }
        }
        return all;
    }

    private int byKind(int maker, List<Integer> r) {
        int bits = mayOf(r, maker);
        boolean full = r.size() == length;
        List<Integer> options = new ArrayList<>();
        switch (kinds[maker]) {
            case 1:
                options.add(8);
                options.addAll(lawsIn(bits));
                break;
            case 2:
                return full && v(r, 0, maker) > 0 && (bits >> r.get(0) & 1) == 1 ? r.get(0) : 8;
            case 3:
                if (full && v(r, 0, maker) < 0) {
                    options.addAll(lawsIn(bits));
                }
                break;
            case 4:
                return (bits >> told[maker] & 1) == 1 && !r.contains(told[maker]) ? told[maker] : 8;
            default:
                return 8;
        }
        if (options.isEmpty()) {
            return 8;
        }
        int best = options.get(0);
        for (int option : options) {
            if (worthOf(behind(r, option), maker) > worthOf(behind(r, best), maker)) {
                best = option;
            }
        }
        return best;
    }

    private boolean quietOf(List<Integer> r) {
        for (int who : rota) {
            if (mayOf(r, who) != 0) {
                return false;
            }
        }
        return true;
    }

    // ---- the row as it is ----

    int may(int maker) {
        return maker < 0 || maker > 3 ? -1 : mayOf(row, maker);
    }

    int at(int i) {
        return i < 0 || i >= row.size() ? -1 : row.get(i);
    }

    int holding() {
        return holdingOf(row);
    }

    int worth(int sort) {
        return sort < 0 || sort > 3 ? WRONG : worthOf(row, sort);
    }

    int would(int maker) {
        return maker < 0 || maker > 3 ? -1 : byKind(maker, row);
    }

    boolean quiet() {
        return quietOf(row);
    }

    int lawful(int i) {
        return i < 0 || i > 7 ? -1 : (holdingOf(row) & deeds[i]) == 0 ? 1 : 0;
    }

    // ---- days that are done ----

    int make(int law) {
        if (law < -1 || law >= laws.size()) {
            return -1;
        }
        if (law >= 0 && (mayOf(row, rota[place]) >> law & 1) == 0) {
            return -2;
        }
        return day(rota[place], law);
    }

    private int day(int who, int law) {
        int fell = 8;
        if (law >= 0 && law < 8) {
            fell = row.size() == length ? row.get(0) : 8;
            if (book.size() < 100) {
                book.add(new Entry(days, who, law, fell));
            }
            row = behind(row, law);
        }
        days++;
        place = (place + 1) % rota.length;
        return fell;
    }

    int draw(int n) {
        if (n < 1 || n > 100) {
            return -1;
        }
        int made = 0;
        for (int i = 0; i < n; i++) {
            x = (int) ((25173L * x + 13849L) % 65536L);
            int law = byKind(x % 4, row);
            made += law < 8 ? 1 : 0;
            day(x % 4, law);
        }
        return made;
    }

    int book(int i, int what) {
        if (i < 0 || i >= book.size() || what < 0 || what > 3) {
            return -1;
        }
        Entry e = book.get(i);
        return new int[] {e.day(), e.who(), e.which(), e.fell()}[what];
    }

    int keep() {
        kept = new Kept(new ArrayList<>(row), place, days, x, book.size());
        return row.size();
    }

    boolean undo() {
        if (kept == null) {
            return false;
        }
        row = new ArrayList<>(kept.row());
        place = kept.place();
        days = kept.days();
        x = kept.x();
        while (book.size() > kept.told()) {
            book.remove(book.size() - 1);
        }
        return true;
    }

    int check(int n) {
        if (n < 0 || 12L * n > tape.size()) {
            return -2;
        }
        List<Integer> numbers = new ArrayList<>();
        for (int i = 0; i < 3 * n; i++) {
            int value = 0;
            for (int k = 0; k < 4; k++) {
                value = value * 256 + tape.get(4 * i + k);
            }
            numbers.add(value);
        }
        tape.clear();
        List<Integer> right = new ArrayList<>();
        for (Entry e : book) {
            right.addAll(List.of(e.day(), e.who(), e.which()));
        }
        if (numbers.equals(right)) {
            return -1;
        }
        int i = 0;
        while (i < numbers.size() && i < right.size() && numbers.get(i).equals(right.get(i))) {
            i++;
        }
        return i;
    }

    // ---- days thought of ----

    int run(int n, int what) {
        boolean known = (what >= 0 && what <= 3) || (what >= 10 && what <= 13) || what == 20;
        if (n < 1 || n > 60 || !known) {
            return WRONG;
        }
        List<Integer> r = row;
        int sum = 0;
        int made = 0;
        for (int d = 0; d < n; d++) {
            int law = byKind(rota[(place + d) % rota.length], r);
            made += law < 8 ? 1 : 0;
            r = behind(r, law);
            if (what < 4) {
                sum += worthOf(r, what);
            }
        }
        if (what < 4) {
            return sum;
        }
        return what == 20 ? made : what - 10 < r.size() ? r.get(what - 10) : -1;
    }

    /** Days ahead, days of the ring, worth of each sort in it. */
    private long[] ring(List<Integer> from, int p) {
        Map<String, Integer> seen = new HashMap<>();
        List<long[]> sums = new ArrayList<>();
        List<Integer> r = from;
        int at = p;
        long[] sum = new long[4];
        for (int d = 0;; d++) {
            Integer before = seen.put(r + "@" + at, d);
            sums.add(sum.clone());
            if (before != null) {
                long[] answer = {before, d - before, 0, 0, 0, 0};
                for (int sort = 0; sort < 4; sort++) {
                    answer[2 + sort] = sum[sort] - sums.get(before)[sort];
                }
                return answer;
            }
            r = behind(r, byKind(rota[at], r));
            at = (at + 1) % rota.length;
            for (int sort = 0; sort < 4; sort++) {
                sum[sort] += worthOf(r, sort);
            }
        }
    }

    private static int line(long above, long below, boolean isAbove) {
        long divisor = BigInteger.valueOf(above).gcd(BigInteger.valueOf(below)).longValue();
        return (int) ((isAbove ? above : below) / divisor);
    }

    int mean(int what) {
        boolean known = what == 0 || what == 1 || (what >= 10 && what <= 13) || (what >= 20 && what <= 23);
        if (!known) {
            return WRONG;
        }
        long[] ring = ring(row, place);
        return what < 2 ? (int) ring[what] : line(ring[2 + what % 10], ring[1], what < 20);
    }

    int number(int sort, int what) {
        if (sort < 0 || sort > 3 || what < 0 || what > 2) {
            return WRONG;
        }
        int before = length;
        int best = 0;
        long above = 0;
        long below = 1;
        for (length = 1; length <= 4; length++) {
            long[] ring = ring(new ArrayList<>(), 0);
            BigInteger mine = BigInteger.valueOf(ring[2 + sort]).multiply(BigInteger.valueOf(below));
            BigInteger theirs = BigInteger.valueOf(above).multiply(BigInteger.valueOf(ring[1]));
            if (best == 0 || mine.compareTo(theirs) > 0) {
                best = length;
                above = ring[2 + sort];
                below = ring[1];
            }
        }
        length = before;
        return what == 0 ? best : line(above, below, what == 1);
    }

    private final Map<String, Plan> plans = new HashMap<>();

    /** What comes of so many days if some look ahead (for themselves) and the others go by their KINDS. */
    private Plan plan(List<Integer> r, int p, int left, Set<Integer> looking) {
        if (left == 0) {
            return new Plan(new long[4], List.of());
        }
        String key = r + "@" + p + "-" + left;
        Plan known = plans.get(key);
        if (known != null) {
            return known;
        }
        int who = rota[p];
        List<Integer> options = new ArrayList<>();
        if (looking.contains(who)) {
            options.add(8);
            options.addAll(lawsIn(mayOf(r, who)));
        } else {
            options.add(byKind(who, r));
        }
        Plan best = null;
        for (int option : options) {
            List<Integer> next = behind(r, option);
            Plan rest = plan(next, (p + 1) % rota.length, left - 1, looking);
            long[] worth = rest.worth().clone();
            for (int sort = 0; sort < 4; sort++) {
                worth[sort] += worthOf(next, sort);
            }
            if (best == null || worth[who] > best.worth()[who]) {
                List<Integer> made = new ArrayList<>(List.of(option));
                made.addAll(rest.made());
                best = new Plan(worth, made);
            }
        }
        plans.put(key, best);
        return best;
    }

    int best(int maker, int n, int what) {
        if (maker < 0 || maker > 3 || n < 1 || n > 8 || what < -1 || what >= n) {
            return WRONG;
        }
        plans.clear();
        Plan plan = plan(row, place, n, Set.of(maker));
        return what == -1 ? (int) plan.worth()[maker] : plan.made().get(what);
    }

    int all(int n, int what) {
        boolean known = (what >= 0 && what <= 3) || (what >= 10 && what < 10 + n);
        if (n < 1 || n > 8 || !known) {
            return WRONG;
        }
        plans.clear();
        Plan plan = plan(row, place, n, Set.of(0, 1, 2, 3));
        return what <= 3 ? (int) plan.worth()[what] : plan.made().get(what - 10);
    }

    /** Backwards: from all that can be come to, those that are quiet, then those a day ahead of these, and so on. */
    int soon(int what) {
        if (what < -1) {
            return -1;
        }
        Map<String, List<Integer>> rows = new HashMap<>();
        Map<String, List<String>> steps = new HashMap<>();
        List<String> open = new ArrayList<>();
        rows.put(row + "@" + place, row);
        open.add(row + "@" + place);
        for (int i = 0; i < open.size(); i++) {
            String key = open.get(i);
            List<Integer> r = rows.get(key);
            int p = key.charAt(key.length() - 1) - '0';
            List<String> next = new ArrayList<>();
            List<Integer> options = new ArrayList<>(List.of(8));
            options.addAll(lawsIn(mayOf(r, rota[p])));
            for (int option : options) {
                List<Integer> after = behind(r, option);
                String afterKey = after + "@" + (p + 1) % rota.length;
                next.add(option + afterKey);
                if (rows.put(afterKey, after) == null) {
                    open.add(afterKey);
                }
            }
            steps.put(key, next);
        }
        Map<String, Integer> far = new HashMap<>();
        for (String key : open) {
            if (quietOf(rows.get(key))) {
                far.put(key, 0);
            }
        }
        boolean changed = true;
        for (int d = 1; changed; d++) {
            changed = false;
            Set<String> reached = new HashSet<>();
            for (String key : open) {
                if (far.containsKey(key)) {
                    continue;
                }
                for (String step : steps.get(key)) {
                    if (far.containsKey(step.substring(1))) {
                        reached.add(key);
                    }
                }
            }
            for (String key : reached) {
                far.put(key, d);
                changed = true;
            }
        }
        String key = row + "@" + place;
        if (!far.containsKey(key)) {
            return -2;
        }
        int n = far.get(key);
        if (what == -1) {
            return n;
        }
        if (what >= n) {
            return -1;
        }
        for (int d = 0;; d++) {
            for (String step : steps.get(key)) {
                if (far.getOrDefault(step.substring(1), -1) == n - d - 1) {
                    if (d == what) {
                        return step.charAt(0) - '0';
                    }
                    key = step.substring(1);
                    break;
                }
            }
        }
    }

    private final Map<String, Boolean> holds = new HashMap<>();

    private boolean canHold(List<Integer> r, int p, int n, Set<Integer> both, int friends) {
        if (n == 0) {
            return true;
        }
        String key = r + "@" + p + "-" + n;
        Boolean known = holds.get(key);
        if (known != null) {
            return known;
        }
        int who = rota[p];
        boolean friend = (friends >> who & 1) == 1;
        List<Integer> options = new ArrayList<>(List.of(8));
        options.addAll(lawsIn(mayOf(r, who)));
        boolean some = false;
        boolean every = true;
        for (int option : options) {
            List<Integer> next = behind(r, option);
            boolean good = next.containsAll(both) && canHold(next, (p + 1) % rota.length, n - 1, both, friends);
            some |= good;
            every &= good;
        }
        boolean answer = friend ? some : every;
        holds.put(key, answer);
        return answer;
    }

    int held(int a, int b, int friends) {
        if (a < 0 || a >= laws.size() || b < 0 || b >= laws.size() || friends < 0 || friends > 15) {
            return -1;
        }
        holds.clear();
        int n = 12;
        while (!canHold(row, place, n, new HashSet<>(Arrays.asList(a, b)), friends)) {
            n--;
        }
        return n;
    }

    // ---- all rows ----

    private void allRows(List<Integer> begun, boolean different, List<List<Integer>> all) {
        if (begun.size() == length) {
            all.add(new ArrayList<>(begun));
            return;
        }
        for (int law = 0; law < laws.size(); law++) {
            if (different && begun.contains(law)) {
                continue;
            }
            begun.add(law);
            allRows(begun, different, all);
            begun.remove(begun.size() - 1);
        }
    }

    int bestRow(int sort, int what) {
        if (sort < -1 || sort > 3 || what < -1 || what >= length || laws.size() < length) {
            return WRONG;
        }
        List<List<Integer>> all = new ArrayList<>();
        allRows(new ArrayList<>(), true, all);
        List<Integer> best = null;
        int most = Integer.MIN_VALUE;
        for (List<Integer> r : all) {
            int worth = 0;
            for (int s = 0; s < 4; s++) {
                worth += sort == -1 || sort == s ? worthOf(r, s) : 0;
            }
            if (worth > most) {
                most = worth;
                best = r;
            }
        }
        return what == -1 ? most : best.get(what);
    }

    int fits(int n, int what) {
        if (n < 0 || n > 20 || what < 0 || what > 2 || tape.size() < 2 * n) {
            return -1;
        }
        List<Integer> said = new ArrayList<>(tape.subList(0, 2 * n));
        tape.clear();
        for (int i = 0; i < n; i++) {
            if (said.get(2 * i) > 7 || said.get(2 * i + 1) > 1) {
                return -2;
            }
        }
        List<List<Integer>> all = new ArrayList<>();
        allRows(new ArrayList<>(), false, all);
        all.removeIf(r -> {
            for (int i = 0; i < n; i++) {
                boolean isLawful = (deeds[said.get(2 * i)] & holdingOf(r)) == 0;
                if (isLawful != (said.get(2 * i + 1) == 1)) {
                    return true;
                }
            }
            return false;
        });
        if (what == 0 || all.isEmpty()) {
            return all.size();
        }
        int bits = 0;
        for (int law = 0; law < laws.size(); law++) {
            final int one = law;
            boolean told = what == 1 ? all.stream().allMatch(r -> r.contains(one))
                    : all.stream().noneMatch(r -> r.contains(one));
            bits |= told ? 1 << law : 0;
        }
        return bits;
    }

    int count(int what) {
        if (what >= 10 && what < 10 + rota.length) {
            return rota[what - 10];
        }
        int[] all = {laws.size(), row.size(), length, clauses.size(), tape.size(), x, days, place, book.size()};
        return what >= 0 && what < all.length ? all[what] : -1;
    }
}
