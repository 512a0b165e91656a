import java.util.Random;

/** Long runs of calls by chance (the same ones each time), each answer held against the slow Model's. */
public final class RandomRuns {
    private final Random random;
    private final NineLaws town = new NineLaws();
    private final Model model = new Model();
    private final StringBuilder told = new StringBuilder();
    private int calls;
    private int wrong;

    private RandomRuns(long seed) {
        this.random = new Random(seed * 0x9E3779B97F4A7C15L);
    }

    public static void main(String[] args) {
        int first = args.length > 0 ? Integer.parseInt(args[0]) : 1;
        int runs = args.length > 1 ? Integer.parseInt(args[1]) : 400;
        int wrong = 0;
        long calls = 0;
        for (int seed = first; seed < first + runs && wrong < 5; seed++) {
            RandomRuns run = new RandomRuns(seed);
            if (seed % 3 == 0) {
                run.goWide(30);
            } else if (seed % 9 == 1) {
                run.goQuiet();
            } else {
                run.goDense();
            }
            calls += run.calls;
            if (run.wrong > 0) {
                wrong++;
                System.out.println("random run " + seed + ":\n" + run.told);
            }
        }
        for (int seed = first; seed < first + 100 * runs && wrong < 5; seed++) {
            wrong += faultsAlike(new Random(seed)) ? 0 : 1;
        }
        System.out.println(calls + " calls by chance, " + (wrong == 0 ? "all alike" : "NOT all alike"));
        if (wrong != 0) {
            System.exit(1);
        }
    }

    // ---- texts by chance ----

    private static String oneOf(Random random, String signs) {
        return String.valueOf(signs.charAt(random.nextInt(signs.length())));
    }

    private static String factor(Random random, int depth) {
        int kind = random.nextInt(10);
        if (kind == 0 && depth < 3) {
            return "[" + sum(random, depth + 1) + "]";
        }
        if (kind < 5) {
            return String.valueOf(random.nextInt(random.nextInt(12) == 0 ? 100000 : 6));
        }
        return oneOf(random, "lpknshfioyr");
    }

    private static String sum(Random random, int depth) {
        StringBuilder all = new StringBuilder(factor(random, depth));
        while (random.nextInt(5) < 2) {
            all.append(oneOf(random, "+-+-**/%")).append(factor(random, depth));
        }
        return all.toString();
    }

    private static String piece(Random random, int depth) {
        int kind = random.nextInt(12);
        if (kind == 0 && depth < 4) {
            return "!" + piece(random, depth + 1);
        }
        if (kind == 1 && depth < 4) {
            return "(" + condition(random, depth + 1) + ")";
        }
        return sum(random, depth) + oneOf(random, "<>=") + sum(random, depth);
    }

    private static String condition(Random random, int depth) {
        StringBuilder all = new StringBuilder(piece(random, depth));
        while (random.nextInt(4) == 0) {
            all.append(oneOf(random, "|&")).append(piece(random, depth));
        }
        return all.toString();
    }

    private static String clause(Random random, char letter) {
        String c = random.nextInt(4) == 0 ? "1=1" : condition(random, 1);
        return letter + (letter == 'm' && random.nextInt(2) == 0 ? "1" : sum(random, 0)) + "(" + c + ")";
    }

    private static final String[] LIVELY_M = {
        "m1(1=1)", "m1(s=0)", "m1(!y=l)", "m1(l>y|y=8)", "m1([l+p]%2=0)", "m1(n<2|!o=l)", "m1(l+p>y-2)",
        "m[l*3+p+n]%3(1=1)", "m1(l<p+2);m1(y>l&s=0)", "m1(!(l=y|l=o));m1(f=0)", "m1(l+y>5|l=0)", "m1(7/[l-p]>1)",
        "m1(n=0);m1(l-y<3&y-l<2&s<2)", "m1([y+l]%3=p%3)", "m1(f=0|o+l>r)", "m1(!(n=r&o=p&y>2)&s<2)",
        "m1(n<r|o>y)", "m1(n<r|[o+y]%3=1)", "m1(f=0|o<y&s=0)", "m1(!f=1|o+p>y|s>1)", "m1(!(o=2&y=1)&[l+p]%2=0)",
        "m1(o+y<9-r|n<2)", "m1(!(f=1&o=1)&!l=p)", "m1(!(f=1&o+1=y))"
    };
    private static final String[] LIVELY_V = {
        "vk-p*l(1=1)", "v[k*[p+1]]%7-3(1=1)", "v[l*5+p*3+i*2+o]%11-5(1=1)", "v[l*y+k*p]%9-4(h=1)",
        "vk*p-k*2(l=o);v3-i(1=1)", "v[l+1]*[p+1]%5-2(s=1);v-2-0(s>1)", "vk+n-r(f=1);v0-k(1=1)",
        "v9/[y-o]-p(1=1)", "v[[l+p]%4-2]*[i+1](h=1);v0-1(h=0)", "v200-l*90-p(1=1)", "vl-p(i=0);vp-l(i=1);vk-4(1=1)",
        "v[y-l]*[p-1](1=1)", "v10-[l-p]*[l-p]*2(!l=o)", "v[k+i+p]%3(1=1)"
    };

    private static String oneOf(Random random, String[] all) {
        return all[random.nextInt(all.length)];
    }

    private static String lawOfLaws(Random random) {
        if (random.nextInt(3) > 0) {
            return oneOf(random, LIVELY_V).replace("v-", "v0-") + ";" + oneOf(random, LIVELY_M);
        }
        StringBuilder all = new StringBuilder();
        int many = 1 + random.nextInt(random.nextInt(4) == 0 ? 16 : 5);
        for (int i = 0; i < many; i++) {
            String clause = clause(random, random.nextInt(3) == 0 ? 'm' : 'v');
            if (all.length() + clause.length() > 180) {
                break;
            }
            all.append(i == 0 ? "" : ";").append(clause);
        }
        if (random.nextInt(3) > 0) {
            all.append(";m1(").append(oneOf(random, "1pls")).append(oneOf(random, "<>=")).append(random.nextInt(3))
                    .append(")");
        }
        if (random.nextInt(3) == 0) {
            all.append(";m1(1=1)");
        }
        if (random.nextInt(2) == 0) {
            all.append(";v").append(oneOf(random, "klpiny")).append(oneOf(random, "+-*")).append(random.nextInt(9))
                    .append("(1=1)");
        }
        return all.charAt(0) == ';' ? all.substring(1) : all.toString();
    }

    private static String spoilt(Random random, String text) {
        StringBuilder all = new StringBuilder(text);
        for (int i = random.nextInt(3); i >= 0 && all.length() > 0; i--) {
            int at = random.nextInt(all.length());
            String signs = "vmlpknshfioyr0123456789[]()!<>=&|;+-*/% q";
            switch (random.nextInt(4)) {
                case 0: all.deleteCharAt(at); break;
                case 1: all.insert(at, oneOf(random, signs)); break;
                case 2: all.setCharAt(at, oneOf(random, signs).charAt(0)); break;
                default: all.insert(at, oneOf(random, "!([1!([1;").repeat(1 + random.nextInt(8))); break;
            }
        }
        return all.length() == 0 ? "v" : all.length() > 200 ? all.substring(0, 200) : all.toString();
    }

    private static boolean faultsAlike(Random random) {
        String text = lawOfLaws(random);
        String sent = random.nextInt(8) == 0 ? text : spoilt(random, text);
        if (sent.length() > 200) {
            sent = sent.substring(0, 200);
        }
        NineLaws town = new NineLaws();
        for (int i = 0; i < sent.length(); i += 20) {
            town.feed(four(sent, i), four(sent, i + 4), four(sent, i + 8), four(sent, i + 12), four(sent, i + 16));
        }
        int answered = town.text(sent.length());
        int fault = Model.faultOf(sent);
        int due = fault != 0 ? fault : (int) sent.chars().filter(c -> c == ';').count() + 1;
        if (answered != due) {
            System.out.println("text " + sent + " answered " + answered + ", the model " + due);
        }
        return answered == due;
    }

    private static int four(String text, int from) {
        int value = 0;
        for (int i = from; i < from + 4; i++) {
            value = value << 8 | (i < text.length() ? text.charAt(i) & 255 : ' ');
        }
        return value;
    }

    // ---- a run ----

    private void same(String call, long answered, long due) {
        calls++;
        told.append(call).append(" -> ").append(answered);
        if (answered != due) {
            wrong++;
            told.append("   THE MODEL: ").append(due);
        }
        told.append('\n');
        model.forget();
    }

    private static int bit(boolean b) {
        return b ? 1 : 0;
    }

    private void feed(int a, int b, int c, int d, int e) {
        same("feed(" + a + ", " + b + ", " + c + ", " + d + ", " + e + ")", town.feed(a, b, c, d, e),
                model.feed(a, b, c, d, e));
    }

    private void text(String sent) {
        for (int i = 0; i < sent.length(); i += 20) {
            feed(four(sent, i), four(sent, i + 4), four(sent, i + 8), four(sent, i + 12), four(sent, i + 16));
        }
        told.append("  [").append(sent).append("]\n");
        same("text(" + sent.length() + ")", town.text(sent.length()), model.text(sent.length()));
    }

    private int sparse(int bits) {
        int all = 0;
        for (int i = 0; i < bits; i++) {
            all |= random.nextInt(7) == 0 ? 1 << i : 0;
        }
        return all;
    }

    /** Mostly a number from 0 on below many, now and then one beyond. */
    private int number(int many) {
        int kind = random.nextInt(25);
        if (kind == 0) {
            return -1 - random.nextInt(2);
        }
        return kind == 1 ? many + random.nextInt(2) : random.nextInt(many);
    }

    private void law() {
        int tag = number(10);
        int needs = random.nextInt(2) == 0 ? 0 : sparse(8);
        int bars = random.nextInt(2) == 0 ? 0 : sparse(8);
        int shuts = random.nextInt(2) == 0 ? 0 : sparse(4);
        if (random.nextInt(40) == 0) {
            needs = 256;
        }
        same("law(" + tag + ", " + needs + ", " + bars + ", " + shuts + ")", town.law(tag, needs, bars, shuts),
                model.law(tag, needs, bars, shuts));
    }

    private void length() {
        int n = 1 + number(4);
        same("length(" + n + ")", bit(town.length(n)), bit(model.length(n)));
    }

    private void rota() {
        int value = 0;
        for (int i = 0; i < 4; i++) {
            value = value << 8 | random.nextInt(random.nextInt(30) == 0 ? 256 : 4);
        }
        if (random.nextInt(12) > 0) {
            feed(value, 0, 0, 0, 0);
        }
        int n = 1 + number(4);
        same("rota(" + n + ")", bit(town.rota(n)), bit(model.rota(n)));
    }

    private void kind() {
        int maker = number(4);
        int kind = random.nextInt(3) == 0 ? 1 : number(5);
        int law = number(8);
        same("kind(" + maker + ", " + kind + ", " + law + ")", bit(town.kind(maker, kind, law)),
                bit(model.kind(maker, kind, law)));
    }

    private void make() {
        int bits = model.may(0) | model.may(1) | model.may(2) | model.may(3);
        int law = number(9) - 1;
        for (int tries = 0; tries < 6 && (law < 0 || (bits >> law & 1) == 0); tries++) {
            law = random.nextInt(8);
        }
        same("make(" + law + ")", town.make(law), model.make(law));
    }

    private void check() {
        int all = model.count(8);
        int n = Math.min(all, random.nextInt(6));
        if (random.nextInt(5) == 0) {
            n = number(19);
        } else if (all < 18 && random.nextInt(2) == 0) {
            n = all;
        }
        int spoilt = random.nextInt(2) == 0 ? random.nextInt(60) : -1;
        for (int i = 0; i < 3 * n && i < 54; i += 5) {
            int[] five = new int[5];
            for (int k = 0; k < 5; k++) {
                five[k] = i + k == spoilt ? random.nextInt(5) : model.book((i + k) / 3, (i + k) % 3);
            }
            feed(five[0], five[1], five[2], five[3], five[4]);
        }
        same("check(" + n + ")", town.check(n), model.check(n));
    }

    private void fits() {
        int n = random.nextInt(30) == 0 ? number(21) : random.nextInt(4);
        int[] five = new int[5];
        for (int i = 0; i < 5; i++) {
            for (int k = 0; k < 2; k++) {
                five[i] = five[i] << 16 | number(8) << 8 & 65280 | number(2) & 255;
            }
        }
        if (random.nextInt(20) > 0) {
            feed(five[0], five[1], five[2], five[3], five[4]);
        }
        int what = number(3);
        same("fits(" + n + ", " + what + ")", town.fits(n, what), model.fits(n, what));
    }

    private void setUp() {
        int laws = random.nextInt(4) == 0 ? 8 : 1 + random.nextInt(5);
        for (int i = 0; i < laws; i++) {
            law();
        }
        text(lawOfLaws(random));
        rota();
        for (int i = 0; i < 4; i++) {
            kind();
        }
        for (int i = 0; i < 3; i++) {
            deed();
        }
        if (random.nextInt(2) == 0) {
            length();
        }
    }

    private void deed() {
        int i = number(8);
        int laws = random.nextInt(30) == 0 ? 256 : sparse(8) | sparse(8);
        same("deed(" + i + ", " + laws + ")", bit(town.deed(i, laws)), bit(model.deed(i, laws)));
    }

    /** Few wrong calls, lively laws, and each question asked whole. */
    private void goDense() {
        int laws = 2 + random.nextInt(random.nextInt(4) == 0 ? 7 : 4);
        for (int i = 0; i < laws; i++) {
            int needs = random.nextInt(3) == 0 ? sparse(laws) : 0;
            int bars = random.nextInt(3) == 0 ? sparse(laws) : 0;
            int shuts = random.nextInt(3) == 0 ? sparse(4) : 0;
            int tag = random.nextInt(10);
            same("law(" + tag + ", " + needs + ", " + bars + ", " + shuts + ")", town.law(tag, needs, bars, shuts),
                    model.law(tag, needs, bars, shuts));
        }
        text(oneOf(random, LIVELY_V).replace("v-", "v0-") + ";" + oneOf(random, LIVELY_M));
        int turns = 1 + random.nextInt(4);
        feed(random.nextInt() & 0x03030303, 0, 0, 0, 0);
        same("rota(" + turns + ")", bit(town.rota(turns)), bit(model.rota(turns)));
        int length = 1 + random.nextInt(4);
        same("length(" + length + ")", bit(town.length(length)), bit(model.length(length)));
        while (calls < 420 && wrong < 3) {
            for (int maker = 0; maker < 4; maker++) {
                int kind = random.nextInt(2) == 0 ? 1 : random.nextInt(5);
                int law = random.nextInt(laws);
                same("kind(" + maker + ", " + kind + ", " + law + ")", bit(town.kind(maker, kind, law)),
                        bit(model.kind(maker, kind, law)));
            }
            for (int i = random.nextInt(5); i >= 0; i--) {
                make();
            }
            for (int i = random.nextInt(2); i >= 0; i--) {
                same("draw(3)", town.draw(3), model.draw(3));
            }
            for (int i = 0; i < 4; i++) {
                same("would(" + i + ")", town.would(i), model.would(i));
                same("mean(" + (10 + i) + ")", town.mean(10 + i), model.mean(10 + i));
            }
            askWhole(laws);
        }
    }

    private void askWhole(int laws) {
        int days = 1 + random.nextInt(5);
        int maker = random.nextInt(4);
        for (int what = -1; what < days; what++) {
            same("best(" + maker + ", " + days + ", " + what + ")", town.best(maker, days, what),
                    model.best(maker, days, what));
            int of = what < 0 ? maker : 10 + what;
            same("all(" + days + ", " + of + ")", town.all(days, of), model.all(days, of));
        }
        askOnTheWay(maker);
        for (int what = -1; what < 4; what++) {
            same("soon(" + what + ")", town.soon(what), model.soon(what));
        }
        for (int i = 0; i < 4; i++) {
            int one = random.nextInt(laws);
            int two = random.nextInt(laws);
            int friends = random.nextInt(16);
            same("held(" + one + ", " + two + ", " + friends + ")", town.held(one, two, friends),
                    model.held(one, two, friends));
            same("bestRow(" + (i - 1) + ", 0)", town.bestRow(i - 1, 0), model.bestRow(i - 1, 0));
        }
        for (int what = 0; what < 3; what++) {
            same("number(" + maker + ", " + what + ")", town.number(maker, what), model.number(maker, what));
        }
        same("mean(0)", town.mean(0), model.mean(0));
        same("mean(1)", town.mean(1), model.mean(1));
        int far = 1 + random.nextInt(60);
        same("run(" + far + ", " + maker + ")", town.run(far, maker), model.run(far, maker));
        same("run(" + far + ", 10)", town.run(far, 10), model.run(far, 10));
        deed();
        fits();
    }

    private static final String[] QUIETABLE_M = {
        "m1(n<r|o>y)", "m1(n<r|[o+y]%3=1)", "m1(f=0|o<y&s=0)", "m1(!(o=2&y=1)&[l+p]%2=0)", "m1(!(f=1&o=1)&!l=p)",
        "m1(!(f=1&o+1=y)&[l+p]%3<2)", "m1(!(f=1&o=y&p<9)&l-y<2&y-l<2);m1(n=0&l=p)", "m1(!(f=1&[o*3+y]%7=5)&!l=y)",
        "m1(f=0&[l+p]%2=n%2);m1(f=1&!o*2=y&l=o+p)"
    };

    /** Towns that may become quiet, from other rows each time. */
    private void goQuiet() {
        int laws = 2 + random.nextInt(5);
        for (int i = 0; i < laws; i++) {
            int bars = random.nextInt(4) == 0 ? sparse(laws) : 0;
            same("law(0, 0, " + bars + ", 0)", town.law(0, 0, bars, 0), model.law(0, 0, bars, 0));
        }
        while (calls < 460 && wrong < 3) {
            text(oneOf(random, QUIETABLE_M));
            int turns = 1 + random.nextInt(4);
            feed(random.nextInt() & 0x03030303, 0, 0, 0, 0);
            same("rota(" + turns + ")", bit(town.rota(turns)), bit(model.rota(turns)));
            int length = 1 + random.nextInt(4);
            same("length(" + length + ")", bit(town.length(length)), bit(model.length(length)));
            for (int i = random.nextInt(6); i >= 0; i--) {
                make();
                same("quiet()", bit(town.quiet()), bit(model.quiet()));
            }
            for (int what = -1; what < 9; what++) {
                same("soon(" + what + ")", town.soon(what), model.soon(what));
            }
        }
    }

    /** The same question again, a day on, back and with other days: what is remembered must not lead astray. */
    private void askOnTheWay(int maker) {
        boolean all = random.nextBoolean();
        for (int i = 0; i < 5; i++) {
            int days = 1 + random.nextInt(4);
            int day = random.nextInt(days);
            if (all) {
                int what = random.nextBoolean() ? maker : 10 + day;
                same("all(" + days + ", " + what + ")", town.all(days, what), model.all(days, what));
            } else {
                int what = random.nextInt(days + 1) - 1;
                same("best(" + maker + ", " + days + ", " + what + ")", town.best(maker, days, what),
                        model.best(maker, days, what));
            }
            int kind = random.nextInt(8);
            if (kind == 0) {
                same("keep()", town.keep(), model.keep());
            } else if (kind == 1) {
                same("undo()", bit(town.undo()), bit(model.undo()));
            } else if (kind == 2) {
                kind();
            } else if (kind < 6) {
                make();
            }
        }
    }

    private void goWide(int heavyLimit) {
        if (random.nextInt(10) > 0) {
            setUp();
        }
        int heavy = 0;
        while (calls < 500 && wrong < 3) {
            int kind = random.nextInt(100);
            if (kind < 45) {
                light(random.nextInt(24));
            } else if (kind < 62) {
                make();
            } else if (kind < 88) {
                if (heavy < heavyLimit) {
                    heavy++;
                    heavy(random.nextInt(9));
                }
            } else {
                telling(random.nextInt(14));
            }
        }
    }

    private void telling(int which) {
        switch (which) {
            case 0: law(); break;
            case 1: length(); break;
            case 2: rota(); break;
            case 3: case 4: case 5: kind(); break;
            case 6: text(lawOfLaws(random)); break;
            case 7: text(spoilt(random, lawOfLaws(random))); break;
            case 8: deed(); break;
            case 9:
                int x = random.nextInt(10) == 0 ? random.nextInt(3) - 2 + 65536 * random.nextInt(2)
                        : random.nextInt(65536);
                same("seed(" + x + ")", bit(town.seed(x)), bit(model.seed(x)));
                break;
            case 10: same("keep()", town.keep(), model.keep()); break;
            case 11: same("undo()", bit(town.undo()), bit(model.undo())); break;
            case 12: check(); break;
            default:
                int days = random.nextInt(5) == 0 ? number(101) : 1 + random.nextInt(6);
                same("draw(" + days + ")", town.draw(days), model.draw(days));
                break;
        }
    }

    private void light(int which) {
        int a = number(4);
        switch (which) {
            case 0: same("may(" + a + ")", town.may(a), model.may(a)); break;
            case 1: same("at(" + a + ")", town.at(a), model.at(a)); break;
            case 2: same("holding()", town.holding(), model.holding()); break;
            case 3: case 4: same("worth(" + a + ")", town.worth(a), model.worth(a)); break;
            case 5: case 6: case 7: same("would(" + a + ")", town.would(a), model.would(a)); break;
            case 8: case 9: case 10:
                int days = 1 + number(random.nextInt(3) == 0 ? 60 : 6);
                int what = new int[] {0, 1, 2, 3, 10, 11, 12, 13, 20, 4, 9, 14, 19, 21, -1}[random.nextInt(15)];
                same("run(" + days + ", " + what + ")", town.run(days, what), model.run(days, what));
                break;
            case 11: case 12:
                int of = new int[] {0, 1, 10, 11, 12, 13, 20, 21, 22, 23, 2, 9, 14, 19, 24, -1}[random.nextInt(16)];
                same("mean(" + of + ")", town.mean(of), model.mean(of));
                break;
            case 13: same("quiet()", bit(town.quiet()), bit(model.quiet())); break;
            case 14:
                int deed = number(8);
                same("lawful(" + deed + ")", town.lawful(deed), model.lawful(deed));
                break;
            case 15: case 16:
                int entry = number(Math.max(1, model.count(8)));
                same("book(" + entry + ", " + a + ")", town.book(entry, a), model.book(entry, a));
                break;
            case 17: case 18:
                int about = number(14);
                same("count(" + about + ")", town.count(about), model.count(about));
                break;
            default: make(); break;
        }
    }

    private void heavy(int which) {
        int a = number(4);
        int days = 1 + number(random.nextInt(4) == 0 ? 8 : 4);
        int day = number(Math.max(1, days + 1)) - 1;
        switch (which) {
            case 0: case 1:
                same("best(" + a + ", " + days + ", " + day + ")", town.best(a, days, day), model.best(a, days, day));
                break;
            case 2: case 3:
                int what = random.nextInt(2) == 0 ? a : 10 + day;
                same("all(" + days + ", " + what + ")", town.all(days, what), model.all(days, what));
                break;
            case 4:
                int sort = number(5) - 1;
                int place = number(4) - 1;
                same("bestRow(" + sort + ", " + place + ")", town.bestRow(sort, place), model.bestRow(sort, place));
                break;
            case 5:
                int on = number(6) - 1;
                same("soon(" + on + ")", town.soon(on), model.soon(on));
                break;
            case 6:
                int laws = Math.max(1, model.count(0));
                int one = number(laws);
                int two = number(laws);
                int friends = number(16);
                same("held(" + one + ", " + two + ", " + friends + ")", town.held(one, two, friends),
                        model.held(one, two, friends));
                break;
            case 7:
                int of = number(3);
                same("number(" + a + ", " + of + ")", town.number(a, of), model.number(a, of));
                break;
            default: fits(); break;
        }
    }
}
