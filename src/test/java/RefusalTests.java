import java.util.ArrayList;
import java.util.List;

/**
 * A call that is refused changes nothing but the tape, where it is told; and a question changes nothing. Each call is
 * made in several towns, which are then looked over and held against a twin that was not asked.
 */
public final class RefusalTests extends Checks {
    private interface Call {
        long on(NineLaws x);
    }

    private interface Making {
        NineLaws made();
    }

    private static final int LEAST = Integer.MIN_VALUE;
    private static final int MOST = Integer.MAX_VALUE;
    private static final String V_TEXT = "vk-p*2+i(1=1);m1(l=2);m1(!s=2)";

    private static Making making;
    private static String townName;
    private static String looksOfTwin;

    private RefusalTests() { }

    public static void main(String[] args) {
        inTown("a new town", NineLaws::new);
        inTown("a small town", RefusalTests::small);
        inTown("a full town", RefusalTests::full);
        inTown("a quiet town", RefusalTests::quiet);
        textRefused();
        rotaRefused();
        fitsRefused();
        checkRefused();
        severalReasons();
        askedBefore();
        finish("RefusalTests");
    }

    // ---- towns, and how they look ----

    private static NineLaws small() {
        NineLaws x = new NineLaws();
        x.law(4, 0, 0, 0);
        x.law(7, 1, 1, 0);
        x.law(2, 0, 0, 8);
        text(x, V_TEXT);
        rota(x, 0, 1, 3);
        x.kind(0, 1, 0);
        x.kind(1, 3, 0);
        x.kind(3, 4, 1);
        x.deed(0, 1);
        x.deed(7, 6);
        x.seed(4711);
        makeAll(x, 0, -1, 1);
        x.keep();
        makeAll(x, 0, 1);
        feedText(x, "v3(1=1);m1(1=1)");
        return x;
    }

    /** Eight LAWS, 14 CLAUSES, four MAKERS, a full ROW of four, a full BOOK, a full tape. */
    private static NineLaws full() {
        NineLaws x = new NineLaws();
        for (int law = 0; law < 8; law++) {
            x.law(9 - law, law == 3 ? 16 : 0, law == 4 ? 128 : 0, law == 5 ? 4 : 0);
        }
        text(x, "v1(k=9&l>0);".repeat(12) + "v[l-p]*k-n(1=1);m1(s=0)");
        x.length(4);
        rota(x, 3, 2, 1, 0);
        for (int maker = 0; maker < 4; maker++) {
            x.kind(maker, maker + 1, 5);
            x.deed(2 * maker, 1 << maker);
        }
        for (int i = 0; i < 110; i++) {
            if (i == 90) {
                x.keep();
            }
            x.make(i % 6);
        }
        feedText(x, "v2*k(1=1);m1(1=1)" + " ".repeat(203));
        return x;
    }

    private static NineLaws quiet() {
        NineLaws x = town("v5(1=1);m1(n=0&l=p)", 1, 2, 3);
        rota(x, 1);
        x.make(1);
        x.kind(1, 1, 0);
        x.keep();
        feedText(x, "v4(1=1);m1(n<2)");
        return x;
    }

    private static void inTown(String name, Making how) {
        about(name);
        townName = name;
        making = how;
        looksOfTwin = looks(how.made());
        same("looks alike when nobody asked", looks(how.made()), looksOfTwin);
        tellingLaws();
        tellingMakers();
        tellingTape();
        asking();
        askingAhead();
        doing();
        questions();
    }

    /** All that a town can be asked; then what it has on its tape, and what it has KEPT. */
    private static String looks(NineLaws x) {
        StringBuilder all = new StringBuilder();
        counted(x, all);
        int told = x.count(8);
        for (int i = 0; i < told; i += i < 3 || i >= told - 4 ? 1 : Math.min(20, told - 4 - i)) {
            all.append(" b").append(x.book(i, 0)).append(x.book(i, 1)).append(x.book(i, 2)).append(x.book(i, 3));
        }
        thoughtOf(x, all);
        all.append(" text").append(x.text(Math.min(15, x.count(4))));
        counted(x, all);
        all.append(" undo").append(x.undo());
        counted(x, all);
        return all.toString();
    }

    private static void counted(NineLaws x, StringBuilder all) {
        for (int what = 0; what < 14; what++) {
            all.append(" c").append(what == 9 ? 0 : x.count(what));
        }
        all.append(" row").append(row(x)).append(" h").append(x.holding()).append(x.quiet());
        for (int who = 0; who < 4; who++) {
            all.append(" w").append(x.worth(who)).append(" m").append(x.may(who)).append(" ").append(x.would(who));
        }
    }

    private static void thoughtOf(NineLaws x, StringBuilder all) {
        for (int i = 0; i < 8; i++) {
            all.append(" l").append(x.lawful(i));
        }
        for (int who = 0; who < 4; who++) {
            all.append(" r").append(x.run(60, who)).append(" ").append(x.mean(10 + who));
            all.append(" best").append(x.best(who, 3, -1)).append(" ").append(x.best(who, 3, 2));
            all.append(" all").append(x.all(4, who)).append(" ").append(x.all(4, 10 + who));
            all.append(" row").append(x.bestRow(who, -1)).append(" ").append(x.bestRow(who, 0));
            all.append(" n").append(x.number(who, 1)).append(" s").append(x.soon(who - 1));
        }
        all.append(" mean").append(x.mean(0)).append(" ").append(x.mean(1)).append(" held").append(x.held(0, 1, 3));
    }

    /** A call with this answer, behind which the town looks as if nobody had asked. */
    private static void refused(String call, long due, Call asked) {
        NineLaws x = making.made();
        same(townName + ": " + call, asked.on(x), due);
        same(townName + ", looked over after " + call, looks(x), looksOfTwin);
    }

    private static long bit(boolean b) {
        return b ? 1 : 0;
    }

    // ---- refused in each town ----

    private static void tellingLaws() {
        for (int no : new int[] {LEAST, -1, 10, 11, MOST}) {
            refused("law, tag " + no, -1, x -> x.law(no, 0, 0, 0));
        }
        for (int no : new int[] {LEAST, -1, 256, 257, MOST}) {
            refused("law, needs " + no, -1, x -> x.law(0, no, 0, 0));
            refused("law, bars " + no, -1, x -> x.law(0, 0, no, 0));
            refused("deed, laws " + no, 0, x -> bit(x.deed(0, no)));
        }
        for (int no : new int[] {LEAST, -1, 16, 17, MOST}) {
            refused("law, shuts " + no, -1, x -> x.law(0, 0, 0, no));
        }
        for (int no : new int[] {LEAST, -1, 8, 9, MOST}) {
            refused("deed " + no, 0, x -> bit(x.deed(no, 1)));
            refused("lawful " + no, -1, x -> x.lawful(no));
        }
        if (making.made().count(0) == 8) {
            refused("a ninth law", -1, x -> x.law(0, 0, 0, 0));
            refused("a ninth law, the most", -1, x -> x.law(9, 255, 255, 15));
        }
    }

    private static void tellingMakers() {
        for (int no : new int[] {LEAST, -1, 0, 5, 6, MOST}) {
            refused("length " + no, 0, x -> bit(x.length(no)));
            refused("rota " + no, 0, x -> bit(x.rota(no)));
        }
        for (int no : new int[] {LEAST, -1, 4, 5, MOST}) {
            refused("kind, maker " + no, 0, x -> bit(x.kind(no, 0, 0)));
        }
        int laws = making.made().count(0);
        for (int maker = 0; maker < 4; maker++) {
            int who = maker;
            for (int no : new int[] {LEAST, -1, 5, 6, MOST}) {
                refused("kind " + no, 0, x -> bit(x.kind(who, no, 0)));
            }
            for (int no : new int[] {LEAST, -2, -1, laws, 8, MOST}) {
                refused("kind 4, law " + no, 0, x -> bit(x.kind(who, 4, no)));
            }
        }
        for (int no : new int[] {LEAST, -1, 65536, 65537, MOST}) {
            refused("seed " + no, 0, x -> bit(x.seed(no)));
        }
    }

    private static void tellingTape() {
        int size = making.made().count(4);
        for (int no : new int[] {LEAST, -1, 0, 201, 202, 220, 221, MOST}) {
            refused("text " + no, -1, x -> x.text(no));
        }
        if (size < 200) {
            refused("text, one more than there are", -1, x -> x.text(size + 1));
            refused("text, 200", -1, x -> x.text(200));
            refused("check, one more than there are", -2, x -> x.check(size / 12 + 1));
            refused("fits, one more than there are", -1, x -> x.fits(size / 2 + 1, 0));
        }
        if (size == 220) {
            refused("feed", -1, x -> x.feed(0, 0, 0, 0, 0));
            refused("feed, else", -1, x -> x.feed(LEAST, -1, 0, 1, MOST));
        }
        if (size == 0) {
            refused("rota without a tape", 0, x -> bit(x.rota(1)));
        }
        for (int no : new int[] {LEAST, -1, 21, 22, MOST, 1073741824, 1073741834}) {
            refused("fits " + no, -1, x -> x.fits(no, 0));
        }
        for (int no : new int[] {LEAST, -1, 3, 4, MOST}) {
            refused("fits, what " + no, -1, x -> x.fits(0, no));
        }
        for (int no : new int[] {LEAST, -357913941, -1, 19, 20, 357913942, 715827883, 1073741824, MOST}) {
            refused("check " + no, -2, x -> x.check(no));
        }
    }

    private static void asking() {
        for (int no : new int[] {LEAST, -1, 4, 5, MOST}) {
            refused("may " + no, -1, x -> x.may(no));
            refused("at " + no, -1, x -> x.at(no));
            refused("worth " + no, WRONG, x -> x.worth(no));
            refused("would " + no, -1, x -> x.would(no));
        }
        int stand = making.made().count(1);
        refused("at, behind the newest", -1, x -> x.at(stand));
        int told = making.made().count(8);
        for (int no : new int[] {LEAST, -1, told, 100, MOST, 1073741824}) {
            refused("book " + no, -1, x -> x.book(no, 0));
        }
        for (int no : new int[] {LEAST, -1, 4, 5, MOST}) {
            refused("book, what " + no, -1, x -> x.book(0, no));
        }
        NineLaws twin = making.made();
        int turns = 1;
        while (turns < 4 && twin.count(10 + turns) >= 0) {
            turns++;
        }
        for (int no : new int[] {LEAST, -2, -1, 9, 10 + turns, 14, 15, MOST}) {
            refused("count " + no, -1, x -> x.count(no));
        }
    }

    private static void askingAhead() {
        for (int no : new int[] {LEAST, -1, 0, 61, 62, MOST}) {
            refused("run, days " + no, WRONG, x -> x.run(no, 0));
            refused("run, days " + no + ", row", WRONG, x -> x.run(no, 10));
        }
        for (int no : new int[] {LEAST, -1, 4, 5, 9, 14, 15, 19, 21, 22, MOST}) {
            refused("run, what " + no, WRONG, x -> x.run(1, no));
        }
        for (int no : new int[] {LEAST, -1, 2, 3, 9, 14, 15, 19, 24, 25, MOST}) {
            refused("mean " + no, WRONG, x -> x.mean(no));
        }
        for (int no : new int[] {LEAST, -1, 4, 5, MOST}) {
            refused("best, maker " + no, WRONG, x -> x.best(no, 1, -1));
            refused("number, sort " + no, WRONG, x -> x.number(no, 0));
            refused("all, what " + no, WRONG, x -> x.all(8, no));
        }
        for (int no : new int[] {LEAST, -1, 0, 9, 10, MOST}) {
            refused("best, days " + no, WRONG, x -> x.best(0, no, -1));
            refused("all, days " + no, WRONG, x -> x.all(no, 0));
            refused("all, days " + no + ", day 0", WRONG, x -> x.all(no, 10));
        }
        for (int days = 1; days <= 8; days++) {
            int n = days;
            refused("best, day " + n + " of " + n, WRONG, x -> x.best(0, n, n));
            refused("all, day " + n + " of " + n, WRONG, x -> x.all(n, 10 + n));
        }
        for (int no : new int[] {LEAST, -2, 8, MOST}) {
            refused("best, day " + no, WRONG, x -> x.best(0, 8, no));
        }
        for (int no : new int[] {9, 18, MOST}) {
            refused("all, what " + no, WRONG, x -> x.all(8, no));
        }
        for (int no : new int[] {LEAST, -1, 3, 4, MOST}) {
            refused("number, what " + no, WRONG, x -> x.number(0, no));
        }
        refusedRows();
    }

    private static void refusedRows() {
        int length = making.made().count(2);
        for (int no : new int[] {LEAST, -2, 4, 5, MOST}) {
            refused("bestRow, sort " + no, WRONG, x -> x.bestRow(no, -1));
        }
        for (int no : new int[] {LEAST, -2, length, 4, MOST}) {
            refused("bestRow, place " + no, WRONG, x -> x.bestRow(-1, no));
        }
        int laws = making.made().count(0);
        for (int no : new int[] {LEAST, -1, laws, 8, MOST}) {
            refused("held, a " + no, -1, x -> x.held(no, 0, 0));
            refused("held, b " + no, -1, x -> x.held(0, no, 0));
        }
        for (int no : new int[] {LEAST, -1, 16, 17, MOST}) {
            refused("held, makers " + no, -1, x -> x.held(0, 0, no));
        }
        int soon = making.made().soon(-1);
        for (int no : new int[] {LEAST, -3, -2}) {
            refused("soon " + no, -1, x -> x.soon(no));
        }
        for (int no : new int[] {Math.max(0, soon), 60, MOST}) {
            refused("soon " + no, soon < 0 ? -2 : -1, x -> x.soon(no));
        }
    }

    private static void doing() {
        NineLaws twin = making.made();
        int laws = twin.count(0);
        int may = twin.may(twin.count(10 + twin.count(7)));
        for (int no : new int[] {LEAST, -3, -2, laws, 8, 9, 31, 32, MOST}) {
            refused("make " + no, -1, x -> x.make(no));
        }
        for (int law = 0; law < laws; law++) {
            int no = law;
            if ((may >> law & 1) == 0) {
                refused("make " + no, -2, x -> x.make(no));
            }
        }
        for (int no : new int[] {LEAST, -1, 0, 101, 102, MOST}) {
            refused("draw " + no, -1, x -> x.draw(no));
        }
        if (townName.equals("a new town")) {
            refused("undo", 0, x -> bit(x.undo()));
        }
    }

    /** What is answered is told elsewhere; here: nothing is done. */
    private static void questions() {
        List<Call> all = new ArrayList<>();
        for (int i = -1; i < 24; i++) {
            int what = i;
            all.add(x -> x.count(what) + x.at(what) + x.lawful(what) + x.book(what, 2) + x.mean(what) + x.soon(what));
            all.add(x -> x.run(60, what) + x.run(1, what) + x.all(8, what) + x.all(1, what) + x.bestRow(-1, what));
            all.add(x -> x.best(what & 3, 8, what) + x.best(3, 1, what) + x.bestRow(0, what) + x.number(0, what));
            all.add(x -> x.may(what) + x.worth(what) + x.would(what) + x.holding() + bit(x.quiet()));
            all.add(x -> x.held(what, 0, 5) + x.held(0, what, 15) + x.held(what, what, 0) + x.held(0, 0, what));
        }
        for (int i = 0; i < all.size(); i++) {
            NineLaws x = making.made();
            all.get(i).on(x);
            same("looked over after question " + i, looks(x), looksOfTwin);
        }
    }

    // ---- refused, and the tape is empty or stays, as told ----

    /** The call is refused, the tape is this long then, and all else is as in a twin whose tape was emptied. */
    private static void emptied(String call, long due, int tapeThen, Call asked) {
        NineLaws x = making.made();
        same(call, asked.on(x), due);
        same("the tape behind " + call, x.count(4), tapeThen);
        x.check(0);
        same("looked over after " + call, looks(x), looksOfTwin);
    }

    private static void bareTape(Making how) {
        making = () -> {
            NineLaws x = how.made();
            x.check(0);
            return x;
        };
        looksOfTwin = looks(making.made());
    }

    private static void textRefused() {
        about("text: a FAULT (the TEXT before stays)");
        String[] bad = {" ", "v1(1=1", "v123456(1=1)", "v[[[[[[[1]]]]]]](1=1)", "v1(1=1);m1(1=1);", "v9(1=1)x",
            "v1(1=1);".repeat(14) + "v1(1=1)"};
        int[] due = {-1000, -1006, -2006, -5007, -1016, -1007, -4112};
        for (Making how : List.<Making>of(RefusalTests::small, RefusalTests::full, NineLaws::new)) {
            bareTape(how);
            for (int i = 0; i < bad.length; i++) {
                String sent = bad[i];
                emptied("text " + sent, due[i], 0, x -> text(x, sent));
                emptied("text ahead of more " + sent, due[i], 0, x -> {
                    feedText(x, sent + " ".repeat(40));
                    return x.text(sent.length());
                });
            }
        }
    }

    private static void rotaRefused() {
        about("rota: no such MAKERS (empty then), not so many (the tape stays)");
        for (Making how : List.<Making>of(RefusalTests::small, RefusalTests::full, NineLaws::new)) {
            bareTape(how);
            for (int no : new int[] {4, 5, 127, 128, 255}) {
                for (int n = 1; n <= 4; n++) {
                    for (int at = 0; at < n; at++) {
                        int[] told = {1, 1, 1, 1};
                        told[at] = no;
                        int many = n;
                        emptied("rota " + n + ", byte " + at + " is " + no, 0, 0, x -> {
                            feedBytes(x, told);
                            return bit(x.rota(many));
                        });
                    }
                }
            }
            for (int n : new int[] {-1, 0, 5, 6}) {
                emptied("rota " + n, 0, 20, x -> {
                    feedBytes(x, 1, 1, 1, 1, 1, 1);
                    return bit(x.rota(n));
                });
            }
        }
        NineLaws x = town(FREE, 0);
        feedBytes(x, 2, 3, 9, 9);
        same("what is behind the first n is not asked", x.rota(2), true);
        same("it is THE ROTA", x.count(11), 3);
    }

    private static void fitsRefused() {
        about("fits: -2: no such DEEDS, no 1 or 0 (empty then); NONE: not so many (the tape stays)");
        bareTape(RefusalTests::small);
        for (int no : new int[] {8, 9, 127, 128, 255}) {
            for (int n = 1; n <= 10; n++) {
                for (int what = 0; what < 3; what++) {
                    int[] told = new int[20];
                    told[2 * n - 2] = no;
                    int[] lawful = new int[20];
                    lawful[2 * n - 1] = no % 8 + 2;
                    int many = n;
                    int of = what;
                    emptied("fits " + n + ", its last DEED is " + no, -2, 0, x -> {
                        feedBytes(x, told);
                        return x.fits(many, of);
                    });
                    emptied("fits " + n + ", its last is " + (no % 8 + 2), -2, 0, x -> {
                        feedBytes(x, lawful);
                        return x.fits(many, of);
                    });
                }
            }
        }
        emptied("fits 11 of 10", -1, 20, x -> {
            feedBytes(x, 0);
            return x.fits(11, 0);
        });
        NineLaws x = town(FREE, 0);
        feedBytes(x, 0, 1, 8, 2);
        same("what is behind the first 2 n is not asked", x.fits(1, 0), 1);
        feedBytes(x, 7, 1);
        same("DEED 7, and 1", x.fits(1, 0), 1);
        feedBytes(x, 7, 2);
        same("2 is no 1 or 0", x.fits(1, 0), -2);
    }

    private static void checkRefused() {
        about("check: -2: it has not so many (the tape stays)");
        bareTape(RefusalTests::small);
        for (int n : new int[] {2, 3, 18, 19, -1, LEAST, MOST}) {
            emptied("check " + n, -2, 20, x -> {
                feedNumbers(x, 0, 0, 0);
                return x.check(n);
            });
        }
        emptied("check 1 of a wrong DAY", 0, 0, x -> check(x, 1, 0, 0));
    }

    private static void severalReasons() {
        about("Of several reasons of a call that told last in its line is looked at first");
        NineLaws x = town("m1(1=2)", 0);
        same("make: no such LAW ahead of what it MAY not", x.make(1), -1);
        same("make: it MAY not", x.make(0), -2);
        feedBytes(x, 8, 2);
        same("fits: no such what, ahead of no such DEED", x.fits(1, 3), -1);
        same("the tape stays", x.count(4), 20);
        same("fits: not so many, ahead of no such DEED", x.fits(11, 0), -1);
        same("the tape stays", x.count(4), 20);
        same("fits: no such DEED", x.fits(1, 0), -2);
        same("the tape is empty", x.count(4), 0);
        feedText(x, "(");
        same("text: not so many, ahead of a FAULT", x.text(21), -1);
        same("text: no such n, ahead of a FAULT", x.text(0), -1);
        same("the tape stays", x.count(4), 20);
        same("text: a FAULT", x.text(20), -1000);
        feedNumbers(x, 9, 9, 9);
        same("check: not so many, ahead of what is not so", x.check(2), -2);
        same("the tape stays", x.count(4), 20);
        same("check: what is not so", x.check(1), 0);
        text(x, FREE);
        same("soon: what below NONE, ahead of never", x.soon(-2), -1);
        same("soon: never, ahead of no such DAY", x.soon(999), -2);
    }

    /** A town to which things are done is asked ahead of each and behind it; so much its twin was never asked. */
    private static void askedBefore() {
        about("questions asked before change no answer");
        List<Call> done = List.of(
                x -> bit(x.length(4)), x -> bit(x.kind(2, 1, 0)), x -> x.make(1), x -> bit(x.kind(1, 4, 5)),
                x -> x.law(9, 0, 3, 0), x -> x.make(-1), x -> text(x, "vk*p-l(1=1);m1(l+p<n+4)"), x -> x.make(0),
                x -> bit(rota(x, 3, 0, 2, 1)), x -> x.keep(), x -> x.draw(5), x -> bit(x.undo()),
                x -> bit(x.length(2)), x -> bit(x.length(1)), x -> bit(rota(x, 2, 2, 0)), x -> x.draw(2),
                x -> text(x, "v7-l*p(1=1);m1(n=0&l>2|o=l+p)"), x -> bit(x.length(3)));
        List<Call> all = List.of(
                x -> x.best(0, 5, -1), x -> x.best(0, 5, 0), x -> x.best(2, 4, 3), x -> x.best(3, 6, -1),
                x -> x.all(5, 0), x -> x.all(5, 14), x -> x.all(3, 10), x -> x.all(6, 3), x -> x.soon(-1),
                x -> x.soon(0), x -> x.held(1, 0, 5), x -> x.mean(11), x -> x.number(2, 1), x -> x.run(9, 1),
                x -> x.bestRow(1, 0), x -> x.worth(1), x -> x.may(2), x -> x.would(0));
        for (int i = 0; i < all.size(); i++) {
            NineLaws x = asked();
            for (int step = 0; step < done.size(); step++) {
                all.get(i).on(x);
                done.get(step).on(x);
                NineLaws twin = asked();
                for (int k = 0; k <= step; k++) {
                    done.get(k).on(twin);
                }
                same("question " + i + " behind step " + step, all.get(i).on(x), all.get(i).on(twin));
            }
        }
        askedForOtherDays();
        NineLaws late = town("v1(l=0);v9(l=1);m1(n=0&l=0);m1(n=1&l=1)", 0);
        same("LAW 0 alone", late.best(0, 2, -1), 2);
        late.law(0, 0, 0, 0);
        same("LAW 1 has come", late.best(0, 2, -1), 1 + 10);
        same("as all", late.all(2, 0), 1 + 10);
    }

    private static void askedForOtherDays() {
        for (int first = 1; first <= 6; first++) {
            for (int then = 1; then <= 6; then++) {
                NineLaws x = asked();
                NineLaws twin = asked();
                int days = then;
                Call last = y -> y.all(days, 9 + days) * 1000 + y.all(days, 1);
                x.all(first, 10);
                x.make(-1);
                twin.make(-1);
                same("all in " + then + " DAYS, asked in " + first + " the DAY before", last.on(x), last.on(twin));
                x.best(1, first, 0);
                x.make(-1);
                twin.make(-1);
                same("best in " + then + " DAYS, asked in " + first + " the DAY before", x.best(1, then, -1),
                        twin.best(1, then, -1));
            }
        }
    }

    private static NineLaws asked() {
        NineLaws x = new NineLaws();
        for (int law = 0; law < 7; law++) {
            x.law(law * 5 % 8, law == 2 ? 1 : 0, law == 5 ? 32 : 0, law == 6 ? 2 : 0);
        }
        text(x, "v[k+p*3]%7-2(1=1);m1(!l=y&l<n*2+3)");
        rota(x, 0, 1, 2);
        x.kind(0, 1, 0);
        x.kind(1, 3, 0);
        return x;
    }
}
