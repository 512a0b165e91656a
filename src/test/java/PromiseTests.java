/** At least one test for each promise, worked out by hand from the document. */
public final class PromiseTests extends Checks {
    private PromiseTests() { }

    public static void main(String[] args) {
        newObject();
        law();
        length();
        rota();
        kind();
        feed();
        text();
        faults();
        letters();
        reckoning();
        may();
        make();
        at();
        holding();
        worth();
        would();
        run();
        mean();
        best();
        all();
        bestRow();
        quiet();
        soon();
        held();
        number();
        deedAndLawful();
        fits();
        seedAndDraw();
        book();
        keepAndUndo();
        askedAgain();
        check();
        count();
        everyCallAnswersAnything();
        finish("PromiseTests");
    }

    // ---- promises 1 to 7 ----

    private static void newObject() {
        about("1 new object");
        NineLaws x = new NineLaws();
        same("NONE", NineLaws.NONE, -1);
        same("laws", x.count(0), 0);
        same("standing", x.count(1), 0);
        same("length", x.count(2), 3);
        same("clauses", x.count(3), 0);
        same("tape", x.count(4), 0);
        same("X", x.count(5), 1);
        same("days", x.count(6), 0);
        same("place", x.count(7), 0);
        same("book", x.count(8), 0);
        same("maker of place 0", x.count(10), 0);
        same("maker of place 1", x.count(11), -1);
        for (int maker = 0; maker < 4; maker++) {
            same("would", x.would(maker), 8);
            same("may", x.may(maker), 0);
        }
        NineLaws y = new NineLaws();
        y.law(1, 0, 0, 0);
        same("another object's laws", x.count(0), 0);
    }

    private static void law() {
        about("2 law");
        NineLaws x = new NineLaws();
        int[][] refused = {{-1, 0, 0, 0}, {10, 0, 0, 0}, {0, -1, 0, 0}, {0, 256, 0, 0}, {0, 0, -1, 0},
            {0, 0, 256, 0}, {0, 0, 0, -1}, {0, 0, 0, 16}};
        for (int[] r : refused) {
            same("refused", x.law(r[0], r[1], r[2], r[3]), -1);
        }
        same("none came", x.count(0), 0);
        same("least", x.law(0, 0, 0, 0), 0);
        same("most", x.law(9, 255, 255, 15), 1);
        for (int i = 2; i < 8; i++) {
            same("number", x.law(i, 0, 0, 0), i);
        }
        same("a ninth", x.law(0, 0, 0, 0), -1);
        same("eight", x.count(0), 8);

        NineLaws later = new NineLaws();
        text(later, "m1(1=1)");
        later.law(0, 2, 4, 0);
        later.make(0);
        same("needs one that comes later", later.holding(), 0);
        later.law(0, 0, 0, 0);
        later.law(0, 0, 0, 0);
        same("does not hold: bars nothing", later.may(0), 7);
        later.make(1);
        same("holds", later.holding(), 3);
        same("bars one that came later", later.may(0), 3);
    }

    private static void length() {
        about("3 length");
        NineLaws x = town("m1(1=1)", 1, 2);
        same("0", x.length(0), false);
        same("5", x.length(5), false);
        same("-1", x.length(-1), false);
        makeAll(x, 0, 1);
        same("none such changes nothing", x.length(9), false);
        sameRow(x, "01");
        for (int n = 1; n <= 4; n++) {
            same("length", x.length(n), true);
            same("is told", x.count(2), n);
            same("the row is empty", x.count(1), 0);
            for (int i = 0; i < n; i++) {
                same("room", x.make(i % 2), 8);
            }
            same("the oldest falls", x.make(1), 0);
            same("full", x.count(1), n);
        }
        same("days go on", x.count(6), 2 + 2 + 3 + 4 + 5);
        rota(x, 0, 1, 2);
        x.make(-1);
        x.length(2);
        same("the place stays", x.count(7), 1);
        same("the book stays", x.count(8), 16);
    }

    private static void rota() {
        about("4 rota");
        NineLaws x = town("m1(1=1)", 1);
        same("no tape", x.rota(1), false);
        feedBytes(x, 3, 2, 1, 0, 9);
        same("0", x.rota(0), false);
        same("5", x.rota(5), false);
        same("-1", x.rota(-1), false);
        same("the tape stays", x.count(4), 20);
        same("4", x.rota(4), true);
        same("the tape is empty", x.count(4), 0);
        for (int w = 0; w < 4; w++) {
            same("maker", x.count(10 + w), 3 - w);
        }
        same("no fifth", x.count(14), -1);
        makeAll(x, -1, -1, -1);
        same("place", x.count(7), 3);
        feedBytes(x, 0, 4);
        same("no such maker", x.rota(2), false);
        same("the tape is empty", x.count(4), 0);
        same("the place stays", x.count(7), 3);
        same("the rota stays", x.count(10), 3);
        feedBytes(x, 255);
        same("a byte has no sign", x.rota(1), false);
        same("one", rota(x, 2), true);
        same("place 0", x.count(7), 0);
        same("its maker", x.count(10), 2);
        same("one alone", x.count(11), -1);
        x.make(0);
        same("who", x.book(0, 1), 2);
        same("from its end to 0", x.count(7), 0);
        same("a row stays", x.count(1), 1);
        same("the same one twice", rota(x, 1, 1, 0), true);
        same("twice", x.count(11), 1);
    }

    private static void kind() {
        about("5 kind");
        NineLaws x = town("v1(1=1);m1(1=1)", 1, 2);
        same("maker -1", x.kind(-1, 0, 0), false);
        same("maker 4", x.kind(4, 0, 0), false);
        same("kind -1", x.kind(0, -1, 0), false);
        same("kind 5", x.kind(0, 5, 0), false);
        same("told -1", x.kind(0, 4, -1), false);
        same("told 2", x.kind(0, 4, 2), false);
        same("told 1", x.kind(0, 4, 1), true);
        same("would", x.would(0), 1);
        same("refused changes nothing", x.kind(0, 4, 7), false);
        same("would still", x.would(0), 1);
        same("law not asked", x.kind(0, 1, -77), true);
        same("wants", x.would(0), 0);
        same("another is still", x.would(1), 8);
        same("still", x.kind(0, 0, 99), true);
        same("would none", x.would(0), 8);
        same("keep", x.kind(3, 2, 99), true);
        same("push", x.kind(3, 3, 99), true);
    }

    private static void feed() {
        about("6 feed");
        NineLaws x = new NineLaws();
        for (int i = 1; i <= 11; i++) {
            same("has", x.feed(0, 0, 0, 0, 0), 20 * i);
        }
        same("more than 220", x.feed(0, 0, 0, 0, 0), -1);
        same("stays", x.count(4), 220);
        same("used whole", x.rota(1), true);
        same("is empty", x.count(4), 0);
        x.feed(0x03020100, 0, 0, 0, 0);
        x.rota(4);
        same("highest byte first", x.count(10), 3);
        same("then the next", x.count(11), 2);
        same("and the next", x.count(12), 1);
        same("and the lowest", x.count(13), 0);
        x.feed(0, 0, 0, 0, 0x12345678);
        x.feed(-1, 0, 0, 0, 0);
        same("still 40", x.count(4), 40);
    }

    private static void text() {
        about("7 text");
        NineLaws x = town("v5(1=1);m1(1=1)", 1);
        same("clauses", x.count(3), 2);
        same("0", x.text(0), -1);
        same("-1", x.text(-1), -1);
        same("not so many", x.text(1), -1);
        x.feed(0, 0, 0, 0, 0);
        same("201", x.text(201), -1);
        same("21", x.text(21), -1);
        same("the tape stays", x.count(4), 20);
        same("a fault", x.text(20), -1000);
        same("the tape is empty", x.count(4), 0);
        same("the text before stays", x.count(3), 2);
        x.make(0);
        same("v before", x.worth(0), 5);
        same("in place of it", text(x, "v7(1=1)"), 1);
        same("v now", x.worth(0), 7);
        same("no m now", x.may(0), 0);
        StringBuilder long200 = new StringBuilder("v111(1=1");
        while (long200.length() < 196) {
            long200.append("&1=1");
        }
        String all = long200 + "+0)";
        same("199 bytes", all.length(), 199);
        all = all.replaceFirst("v1", "v11");
        same("200 bytes", all.length(), 200);
        same("a text of 200", text(x, all), 1);
        StringBuilder fourteen = new StringBuilder("m1(1=1)");
        for (int i = 1; i < 14; i++) {
            fourteen.append(";v").append(i).append("(p=").append(i).append(")");
        }
        same("14 clauses", text(x, fourteen.toString()), 14);
        same("counted", x.count(3), 14);
    }

    private static void fault(String signs, int number, int place) {
        NineLaws x = new NineLaws();
        same(signs, text(x, signs), -1000 * number - place);
    }

    private static void faults() {
        about("7 text, FAULTS");
        fault(" ", 1, 0);
        fault("V", 1, 0);
        fault(";", 1, 0);
        fault("v", 1, 1);
        fault("v1", 1, 2);
        fault("v(1=1)", 1, 1);
        fault("v 1(1=1)", 1, 1);
        fault("v1 (1=1)", 1, 2);
        fault("v-1(1=1)", 1, 1);
        fault("v1-(1=1)", 1, 3);
        fault("v11[1](1=1)", 1, 3);
        fault("vl1(1=1)", 1, 2);
        fault("vll(1=1)", 1, 2);
        fault("v1l(1=1)", 1, 2);
        fault("v[1(1=1)", 1, 3);
        fault("v[1)(1=1)", 1, 3);
        fault("v1](1=1)", 1, 2);
        fault("v[](1=1)", 1, 2);
        fault("va(1=1)", 1, 1);
        fault("vv(1=1)", 1, 1);
        fault("v1()", 1, 3);
        fault("v1(1)", 1, 4);
        fault("v1(1=)", 1, 5);
        fault("v1(=1)", 1, 3);
        fault("v1(1=1=1)", 1, 6);
        fault("v1(1==1)", 1, 5);
        fault("v1(1<=1)", 1, 5);
        fault("v1(1=1&)", 1, 7);
        fault("v1(1=1|)", 1, 7);
        fault("v1(1=1&|1=1)", 1, 7);
        fault("v1(&1=1)", 1, 3);
        fault("v1((1=1)", 1, 8);
        fault("v1((1)=1)", 1, 5);
        fault("v1((l)=1)", 1, 5);
        fault("v1(1=(1))", 1, 5);
        fault("v1((1=1)=1)", 1, 8);
        fault("v1((1=1)1=1)", 1, 8);
        fault("v1(1!=1)", 1, 4);
        fault("v1(!)", 1, 4);
        fault("v1([1=1])", 1, 5);
        fault("v1(1=1))", 1, 7);
        fault("v1(1=1)m1(1=1)", 1, 7);
        fault("v1(1=1);", 1, 8);
        fault("v1(1=1);;v1(1=1)", 1, 8);
        fault("v1(1=1);l", 1, 8);
        fault("v1(1=1);v", 1, 9);
        fault("v123456(1=1)", 2, 6);
        fault("v000001(1=1)", 2, 6);
        fault("v1(123456=1)", 2, 8);
        fault("v1(1=123456)", 2, 10);
        fault("v12345678", 2, 6);
        fault("v12345a", 1, 6);
        fault("v12345", 1, 6);
        StringBuilder fifteen = new StringBuilder();
        for (int i = 0; i < 14; i++) {
            fifteen.append("v1(1=1);");
        }
        fault(fifteen.toString(), 1, 112);
        fault(fifteen + "x", 1, 112);
        fault(fifteen + "v", 4, 112);
        fault(fifteen + "m", 4, 112);
        fault(fifteen.substring(0, 111) + "x", 1, 111);
        fault("v[[[[[[[1", 5, 7);
        fault("v[[[[[[1]]]]]](1=1", 1, 18);
        fault("v1(((((((1=1", 5, 8);
        fault("v1((((((1=1", 1, 11);
        fault("v1(!!!!!!1=1)", 5, 8);
        fault("v1(!!!!!1=[1])", 5, 10);
        fault("v1([[[[[[1", 5, 8);
        fault("v1(!(!(!(1=1))))", 5, 8);
        fault("v1([1]([1]=1))", 1, 6);
        fault("v[[[[[[1(", 1, 8);
        fault("v[[[[[[1[", 1, 8);
        NineLaws x = new NineLaws();
        same("six [", text(x, "v[[[[[[1]]]]]](1=1)"), 1);
        same("six ( with the clause's", text(x, "v1((((((1=1))))))"), 1);
        same("five ! are closed by &", text(x, "v1(!!!!!1=1&!!!!!1=1|!!!!!1=1)"), 1);
        same("! is closed by )", text(x, "v1((!!!!1=1)&!!!!!1=1)"), 1);
        same("! open in (C)", text(x, "v1(!(!(!1=1))&!!!!(1=1))"), 1);
        same("[ is closed by ]", text(x, "v1([[[[[1]]]]]+[[[[[1]]]]]=[[[[[1]]]]])"), 1);
        same("five digits", text(x, "v99999(00000=0)"), 1);
        NineLaws high = new NineLaws();
        feedBytes(high, 'v', 200);
        same("a byte above 127", high.text(2), -1001);
        NineLaws zero = new NineLaws();
        feedBytes(zero, 'v', 0);
        same("a byte 0", zero.text(2), -1001);
    }

    // ---- THE LAW OF LAWS ----

    /** What one law (number 1, tag 4, needs law 0) is worth on place 1 of the row 0 1, of length 3, to sort 2. */
    private static int value(String text) {
        NineLaws x = new NineLaws();
        x.law(7, 0, 0, 0);
        x.law(4, 1, 0, 0);
        text(x, "m1(1=1)");
        makeAll(x, 0, 1);
        text(x, text);
        return x.worth(2);
    }

    private static void letters() {
        about("12 worth, letters");
        same("l", value("v10+l(i=1)"), 11);
        same("p", value("v10+p(i=1)"), 12);
        same("k", value("v10+k(i=1)"), 14);
        same("n", value("v10+n(i=1)"), 12);
        same("s", value("v10+s(i=1)"), 11);
        same("h", value("v10+h(i=1)"), 11);
        same("f", value("v10+f(i=1)"), 10);
        same("i", value("v10+i(l=1)"), 11);
        same("o", value("v10+o(i=1)"), 10);
        same("y", value("v10+y(i=1)"), 11);
        same("r", value("v10+r(i=1)"), 13);
        same("all places together", value("v10+i(1=1)"), 21);

        NineLaws x = town("m1(1=1)", 5, 6);
        x.law(3, 8, 0, 0);
        rota(x, 1);
        x.length(4);
        same("o on an empty row", mayBy(x, "m1(o=8&y=8&n=0&f=0&s=0&h=0&i=0&r=4&p=1)"), 7);
        text(x, "m1(1=1)");
        makeAll(x, 0, 1, 0, 2);
        same("s of 0", mayBy(x, "m1(s=2)"), 1);
        same("s of 1 and 2", mayBy(x, "m1(s=1)"), 6);
        same("h", mayBy(x, "m1(h=1)"), 3);
        same("f", mayBy(x, "m1(f=1&n=4)"), 7);
        same("o and y", mayBy(x, "m1(o=0&y=2)"), 7);
        same("k", mayBy(x, "m1(k=6)"), 2);
        same("i in m is 0", mayBy(x, "m1(i=0)"), 7);
        same("p is the maker", mayBy(x, "m1(p=1)"), 7);
        same("l", mayBy(x, "m1(l=2)"), 4);
        text(x, "vi*10+l(1=1)");
        same("i of one that stands twice", x.worth(0), 0 + 11 + 20 + 32);
        text(x, "vh(1=1)");
        same("h where a need lacks", x.worth(0), 3);
    }

    private static void reckoning() {
        about("12 worth, reckoning");
        same("first that holds", value("v1(i=9);v2(i=1);v3(i=1)"), 2);
        same("none holds", value("v1(i=9)"), 0);
        same("no v", value("m1(1=1)"), 0);
        same("m is no v", value("m9(1=1);v2(i=1)"), 2);
        same("above 100", value("v101(i=1)"), 100);
        same("100", value("v100(i=1)"), 100);
        same("below -100", value("v0-101(i=1)"), -100);
        same("-100", value("v0-100(i=1)"), -100);
        same("* ahead of +", value("v2+3*4(i=1)"), 14);
        same("from the left", value("v20-5-3(i=1)"), 12);
        same("/ and * from the left", value("v20/3*3(i=1)"), 18);
        same("% and * from the left", value("v20%7*3(i=1)"), 18);
        same("[ ]", value("v[2+3]*4(i=1)"), 20);
        same("- [ ]", value("v20-[5-3](i=1)"), 18);
        same("/ towards 0", value("v[0-7]/2(i=1)"), -3);
        same("% of a negative", value("v[0-7]%4(i=1)"), -3);
        same("32 bits", value("v[99999*99999]%100(i=1)"), 9);
        same("32 bits wrap", value("v65536*65536+5(i=1)"), 5);
        same("32 bits wrap to below", value("v65536*32768(i=1)"), -100);
        same("the least by -1", value("v[65536*32768/[0-1]](i=1)"), -100);
        same("the least rest of -1", value("v65536*32768%[0-1]+9(i=1)"), 9);
        same("E refused by /", value("v5+1/0(i=1);v7(i=1)"), 0);
        same("E refused by %", value("v5+1%[l-1](i=1);v7(i=1)"), 0);
        same("C refused by /", value("v5(1/0=1);v7(i=1)"), 7);
        same("C refused by %", value("v5(1%0=1);v7(i=1)"), 7);
        same("! of a refused one", value("v5(!1/0=1);v7(i=1)"), 7);
        same("(C) refused: the whole", value("v5((1/0=1)|i=1);v7(i=1)"), 7);
        same("refused ahead of |", value("v5(1/0=1|i=1);v7(i=1)"), 7);
        same("not asked behind |", value("v5(i=1|1/[l-1]=1);v7(i=1)"), 5);
        same("not asked behind &", value("v5(i=2&1/[l-1]=1|i=1);v7(i=1)"), 5);
        same("asked behind &", value("v5(i=1&1/[l-1]=1|i=1);v7(i=1)"), 7);
        same("not asked in (C)", value("v5(i=1&(i=1|1/[l-1]=1));v7(i=1)"), 5);
        same("not asked behind a part", value("v5(i=2&1/[l-1]=1|i=1&l=1|1/[l-1]=1);v7(i=1)"), 5);
        same("both sides asked", value("v5(1=1/[l-1]);v7(i=1)"), 7);
        same("<", value("v1(i<1);v2(i=1)"), 1 + 2);
        same(">", value("v1(i>0)"), 1);
        same("< is not =", value("v1(1<1)"), 0);
        same("> is not =", value("v1(1>1)"), 0);
        same("& ahead of |", value("v1(i=1|i=0&i=1)"), 1);
        same("(C)", value("v1((i=1|i=0)&i=1)"), 1);
        same("!", value("v1(!i=0)"), 1);
        same("!!", value("v1(!!i=1)"), 1);
        same("! takes its piece alone", value("v1(!i=0&i=1)"), 1);
        same("!(C)", value("v1(!(i=0|i=2))"), 1);
        same("! | three parts", value("v1(i=5|i=6|i=1)"), 1);
        same("& three pieces", value("v1(i=1&l=1&p=2)"), 1);
        same("& fails at the third", value("v1(i=1&l=1&p=3)"), 0);
        same("a minus in C", value("v1(0-1<i-1)"), 2 - 1);
    }

    // ---- promises 8 to 13 ----

    private static void may() {
        about("8 may");
        NineLaws x = new NineLaws();
        x.law(1, 0, 2, 0);
        x.law(2, 8, 1, 0);
        x.law(3, 0, 0, 2);
        same("no text", x.may(0), 0);
        text(x, "m1(1=1)");
        same("-1", x.may(-1), -1);
        same("4", x.may(4), -1);
        same("all", x.may(3), 7);
        x.make(0);
        same("one is barred", x.may(0), 5);
        same("for all", x.may(3), 5);
        x.length(3);
        x.make(1);
        same("one that does not hold bars none", x.may(0), 7);
        x.make(2);
        same("shut out", x.may(1), 0);
        same("others not", x.may(0), 7);
        same("and not 3", x.may(3), 7);
        same("m of 0", mayBy(town("m0(1=1)", 1), "m0(1=1)"), 0);
        same("m below 0", mayBy(town("m0(1=1)", 1), "m0-5(1=1)"), 0);
        same("m above 1", mayBy(town("m0(1=1)", 1), "m7(1=1)"), 1);
        same("first m that holds", mayBy(town("m0(1=1)", 1, 1), "m0(l=0);m1(1=1)"), 2);
        same("m refused", mayBy(town("m0(1=1)", 1, 1), "m1/l(1=1)"), 2);
        same("C of m refused", mayBy(town("m0(1=1)", 1, 1), "m1(5/l=5)"), 2);
        same("by the maker", mayBy(town("m0(1=1)", 1, 1, 1), "m1(l=p)"), 2);
        NineLaws self = new NineLaws();
        self.law(0, 0, 1, 0);
        text(self, "m1(1=1)");
        self.make(0);
        same("bars itself", self.may(0), 0);
        NineLaws needy = new NineLaws();
        needy.law(0, 1, 1, 0);
        text(needy, "m1(1=1)");
        needy.make(0);
        same("needs itself, which stands", needy.may(0), 0);
    }

    private static void make() {
        about("9 make");
        NineLaws x = town("m1(l<2)", 1, 2, 3);
        rota(x, 0, 1);
        same("no such law", x.make(3), -1);
        same("-2 is none", x.make(-2), -1);
        same("8 is none", x.make(8), -1);
        same("may not", x.make(2), -2);
        same("no day went by", x.count(6), 0);
        same("nor a place", x.count(7), 0);
        same("none", x.make(-1), 8);
        same("a day", x.count(6), 1);
        same("a place", x.count(7), 1);
        same("nothing in the book", x.count(8), 0);
        same("one", x.make(0), 8);
        same("twice", x.make(0), 8);
        same("and another", x.make(1), 8);
        sameRow(x, "001");
        same("the oldest falls", x.make(1), 0);
        sameRow(x, "011");
        same("none when full", x.make(-1), 8);
        sameRow(x, "011");
        same("again", x.make(0), 0);
        sameRow(x, "110");
        same("law 1 falls", x.make(0), 1);
        NineLaws own = town("m1(p=l)", 1, 2);
        rota(own, 1, 0);
        same("the maker of today may not", own.make(0), -2);
        same("it may this", own.make(1), 8);
        same("the next may not", own.make(1), -2);
        same("it may that", own.make(0), 8);
    }

    private static void at() {
        about("10 at");
        NineLaws x = town("m1(1=1)", 1, 2, 3);
        same("empty", x.at(0), -1);
        x.length(4);
        makeAll(x, 2, 1);
        same("oldest", x.at(0), 2);
        same("next", x.at(1), 1);
        same("none there", x.at(2), -1);
        same("no such place", x.at(-1), -1);
        same("no such place", x.at(4), -1);
        makeAll(x, 0, 0, 2);
        sameRow(x, "1002");
    }

    private static void holding() {
        about("11 holding");
        NineLaws x = new NineLaws();
        x.law(0, 2, 0, 0);
        x.law(0, 4, 0, 0);
        x.law(0, 0, 0, 0);
        text(x, "m1(1=1)");
        same("none", x.holding(), 0);
        x.make(0);
        same("lacks 1", x.holding(), 0);
        x.make(1);
        same("1 stands, and need not hold", x.holding(), 1);
        x.make(2);
        same("all", x.holding(), 7);
        x.make(2);
        same("0 fell", x.holding(), 6);
        x.make(2);
        same("1 fell", x.holding(), 4);
    }

    private static void worth() {
        about("12 worth");
        NineLaws x = town("vk*p-l(1=1);m1(1=1)", 3, 5);
        same("empty", x.worth(0), 0);
        same("-1", x.worth(-1), WRONG);
        same("4", x.worth(4), WRONG);
        makeAll(x, 0, 1, 1);
        same("to 0", x.worth(0), -2);
        same("to 1", x.worth(1), 3 + 5 + 5 - 2);
        same("to 3", x.worth(3), 9 + 15 + 15 - 2);
        x.law(0, 0, 0, 0);
        text(x, "v100(1=1)");
        same("each bounded, not the sum", x.worth(0), 300);
    }

    private static void would() {
        about("13 would");
        NineLaws x = town("vk-4(1=1);m1(!l=3)", 4, 5, 5, 9, 3);
        same("-1", x.would(-1), -1);
        same("4", x.would(4), -1);
        x.kind(0, 1, 0);
        same("want: most, the lowest", x.would(0), 1);
        x.length(1);
        x.make(1);
        same("want: of like ones none", x.would(0), 8);
        x.length(1);
        x.make(4);
        same("want: a better row", x.would(0), 1);
        x.length(2);
        makeAll(x, 1, 4);
        same("want: the oldest would fall", x.would(0), 8);

        x.kind(1, 2, 0);
        x.length(2);
        x.make(1);
        same("keep: not full", x.would(1), 8);
        x.make(0);
        same("keep: the oldest is above 0", x.would(1), 1);
        makeAll(x, 1);
        same("keep: the oldest is 0", x.would(1), 8);
        text(x, "vk-4(1=1);m1(l=0)");
        makeAll(x, 0);
        same("keep: may not", x.would(1), 8);

        NineLaws y = town("v0-k(1=1);m1(1=1)", 5, 2, 0, 2);
        y.kind(2, 3, 0);
        y.length(2);
        y.make(0);
        same("push: not full", y.would(2), 8);
        y.make(1);
        same("push: the oldest is below 0", y.would(2), 2);
        text(y, "v0-k(1=1);m1(l=1|l=3)");
        same("push: the lowest of like ones", y.would(2), 1);
        text(y, "v0-k(1=1);m1(l=0)");
        same("push: though it gets worse", y.would(2), 0);
        text(y, "v0-k(1=1);m1(l=9)");
        same("push: there is none", y.would(2), 8);
        text(y, "v0-k(!l=0);m1(1=1)");
        same("push: the oldest is 0", y.would(2), 8);
        text(y, "v0-k*[p-1](1=1);m1(1=1)");
        y.kind(0, 3, 0);
        same("push: by its own sort", y.would(0), 8);
        same("push: of another", y.would(2), 2);

        NineLaws z = town("m1(!l=1)", 1, 1, 1);
        z.kind(3, 4, 2);
        same("told", z.would(3), 2);
        z.make(2);
        same("told: stands", z.would(3), 8);
        z.length(1);
        z.kind(3, 4, 1);
        same("told: may not", z.would(3), 8);
        z.kind(3, 0, 0);
        same("still", z.would(3), 8);
    }

    // ---- promises 14 and 15 ----

    private static void run() {
        about("14 run");
        NineLaws x = town("vk-p(1=1);m1(1=1)", 1, 4, 9);
        rota(x, 0, 1);
        x.kind(0, 4, 1);
        x.kind(1, 4, 2);
        x.length(2);
        int[] wrongs = {-1, 4, 9, 14, 19, 21};
        for (int what : wrongs) {
            same("what " + what, x.run(3, what), WRONG);
        }
        same("0 days", x.run(0, 0), WRONG);
        same("61 days", x.run(61, 0), WRONG);
        same("day 1", x.run(1, 0), 4);
        same("day 1 and 2", x.run(2, 0), 4 + 13);
        same("three days", x.run(3, 1), 3 + 11 + 11);
        same("row", x.run(1, 10), 1);
        same("none there", x.run(1, 11), -1);
        same("row behind two", x.run(2, 11), 2);
        same("no place 3 in it", x.run(2, 13), -1);
        same("made", x.run(60, 20), 2);
        same("60 days", x.run(60, 3), 1 + 59 * 7);
        same("nothing is done", x.count(1), 0);
        same("no day", x.count(6), 0);
        same("no book", x.count(8), 0);
        same("no place", x.count(7), 0);
        x.make(2);
        same("from now on: maker 1 first", x.run(1, 20), 0);
        same("then maker 0", x.run(2, 20), 1);
        same("from the row now", x.run(2, 10), 2);
    }

    private static void mean() {
        about("15 mean");
        NineLaws x = town("vk(1=1);m1(1=1)", 1, 2, 5);
        int[] wrongs = {-1, 2, 9, 14, 19, 24};
        for (int what : wrongs) {
            same("what " + what, x.mean(what), WRONG);
        }
        same("still: ahead", x.mean(0), 0);
        same("still: ring", x.mean(1), 1);
        same("still: above", x.mean(10), 0);
        same("still: below", x.mean(20), 1);
        x.length(1);
        rota(x, 0, 1, 2);
        x.kind(0, 4, 0);
        x.kind(1, 4, 1);
        x.kind(2, 4, 0);
        same("ahead", x.mean(0), 1);
        same("ring", x.mean(1), 3);
        same("above", x.mean(10), 4);
        same("below", x.mean(20), 3);
        x.kind(2, 4, 2);
        same("without a common divisor", x.mean(11), 8);
        same("below", x.mean(21), 3);
        text(x, "v0-k(1=1);m1(1=1)");
        same("above is below 0", x.mean(12), -8);
        same("below stays above 0", x.mean(22), 3);
        x.kind(0, 0, 0);
        x.kind(1, 0, 0);
        x.kind(2, 0, 0);
        same("the place comes again too", x.mean(1), 3);
        same("nothing ahead", x.mean(0), 0);
        same("nothing is done", x.count(6), 0);
    }

    // ---- promises 16 and 17 ----

    private static void best() {
        about("16 best");
        NineLaws x = town("v[k-p*2]*[f+1](1=1);m1(1=1)", 3, 6, 6);
        same("maker -1", x.best(-1, 1, -1), WRONG);
        same("maker 4", x.best(4, 1, -1), WRONG);
        same("0 days", x.best(0, 0, -1), WRONG);
        same("9 days", x.best(0, 9, -1), WRONG);
        same("day -2", x.best(0, 1, -2), WRONG);
        same("day 1 of 1", x.best(0, 1, 1), WRONG);
        x.length(2);
        same("one day", x.best(0, 1, -1), 6);
        same("the lower of like ones", x.best(0, 1, 0), 1);
        same("two days", x.best(0, 2, -1), 6 + 24);
        same("day 1", x.best(0, 2, 1), 1);
        same("eight days", x.best(0, 8, -1), 6 + 7 * 24);
        same("none where it gives nothing", x.best(0, 8, 7), 8);
        same("one that never comes on", x.best(1, 3, -1), 0);
        same("none is made by others", x.best(1, 3, 2), 8);
        rota(x, 0, 1);
        x.kind(1, 4, 0);
        same("others by kinds", x.best(0, 2, 1), 0);
        same("others' days count", x.best(0, 2, -1), 6 + 18);
        same("others' kinds are not asked for itself", x.best(1, 2, -1), 4);
        same("0 is still, then 1 makes", x.best(1, 2, 1), 1);
        same("nothing is done", x.count(6), 0);
        NineLaws y = town("v1(l=1);v0-9(l=2);v50(l=3&o=2);m1(!l=3|o=2)", 0, 0, 0, 0);
        y.length(2);
        same("a worse day first", y.best(0, 2, 0), 2);
        same("for a better one", y.best(0, 2, -1), -9 + 50 - 9);
        same("too short for it", y.best(0, 1, 0), 1);
    }

    private static void all() {
        about("17 all");
        NineLaws x = town("v5(l=p);v0-1(1=1);m1(1=1)", 0, 0, 0, 0);
        int[] wrongs = {-1, 4, 9, 13, 20};
        for (int what : wrongs) {
            same("what " + what, x.all(3, what), WRONG);
        }
        same("0 days", x.all(0, 0), WRONG);
        same("9 days", x.all(9, 0), WRONG);
        x.length(1);
        rota(x, 0, 1);
        same("day 0", x.all(2, 10), 0);
        same("day 1", x.all(2, 11), 1);
        same("to 0", x.all(2, 0), 5 - 1);
        same("to 1", x.all(2, 1), -1 + 5);
        same("to 2", x.all(2, 2), -2);
        same("eight days", x.all(8, 3), -8);
        same("day 7 of 8", x.all(8, 17), 1);
        same("day 8 of 8", x.all(8, 18), WRONG);
        same("nothing is done", x.count(6), 0);
        // 0 could have 3 today by law 0, but then 1 makes law 1 (0 gets -9); with law 2 today 1 makes none
        NineLaws y = town("v3(l=0&p=0);v0-9(l=1&p=0);v2(l=1&p=1);v2(l=2);m1(l=0|l=2);m1(l=1&o=0)", 0, 0, 0);
        y.length(1);
        rota(y, 0, 1);
        same("knows what the other will do", y.all(2, 10), 2);
        same("none of like ones", y.all(2, 11), 8);
        same("its worth", y.all(2, 0), 4);
        same("alone it would do the other", y.best(0, 2, 10 - 10), 0);
        NineLaws z = town("v1(1=1);m1(1=1)", 0, 0);
        z.length(1);
        same("the lowest of like ones", z.all(1, 10), 0);
        z.make(1);
        same("none of like ones", z.all(1, 10), 8);
    }

    // ---- promises 18 to 22 ----

    private static void bestRow() {
        about("18 bestRow");
        NineLaws x = town("vk*[i+1]*[1-p](1=1);m1(1=1)", 2, 7, 2);
        same("sort -2", x.bestRow(-2, -1), WRONG);
        same("sort 4", x.bestRow(4, -1), WRONG);
        same("place -2", x.bestRow(0, -2), WRONG);
        same("place 3", x.bestRow(0, 3), WRONG);
        same("worth", x.bestRow(0, -1), 2 + 4 + 21);
        same("the least of like ones", x.bestRow(0, 0), 0);
        same("then", x.bestRow(0, 1), 2);
        same("then", x.bestRow(0, 2), 1);
        same("all alike", x.bestRow(1, -1), 0);
        same("the least", x.bestRow(1, 2), 2);
        same("to 2", x.bestRow(2, -1), -(7 + 4 + 6));
        same("to all", x.bestRow(-1, -1), -2 * (7 + 4 + 6));
        same("to all, first", x.bestRow(-1, 0), 1);
        x.length(4);
        same("fewer laws", x.bestRow(0, -1), WRONG);
        x.length(2);
        same("not one twice", x.bestRow(0, -1), 2 + 14);
        same("place 2 of 2", x.bestRow(0, 2), WRONG);
        text(x, "v1(f=1&r=2&n=2);m1(s=9)");
        same("nobody may make them", x.bestRow(0, -1), 2);
        same("the row now is not asked", x.count(1), 0);
        NineLaws needy = new NineLaws();
        needy.law(0, 2, 0, 0);
        needy.law(0, 0, 0, 0);
        needy.law(0, 0, 0, 0);
        text(needy, "v9(l=0&h=1);v5(l=2)");
        needy.length(2);
        same("needs", needy.bestRow(0, -1), 9);
        needy.length(1);
        same("length 1", needy.bestRow(0, -1), 5);
        same("its law", needy.bestRow(0, 0), 2);
    }

    private static void quiet() {
        about("19 quiet");
        NineLaws x = town("m1(p=1&n=0)", 1, 2);
        same("maker 0 may none", x.quiet(), true);
        rota(x, 0, 1);
        same("maker 1 may", x.quiet(), false);
        x.make(-1);
        same("whoever's turn it is", x.quiet(), false);
        x.make(0);
        same("the row matters", x.quiet(), true);
        same("no laws", new NineLaws().quiet(), true);
    }

    private static void soon() {
        about("20 soon");
        NineLaws x = town("m1(n=0&l<2);m1(n=1&!y=0);m1(n=2&o=1&l=0);m1(n=3&!o=1)", 0, 0, 0);
        same("days", x.soon(-1), 1);
        same("row 0", x.soon(0), 0);
        same("no such day", x.soon(1), -1);
        same("below NONE", x.soon(-2), -1);
        same("far below", x.soon(-2147483648), -1);
        text(x, "m1(n=0&l=1);m1(n=1&l>0);m1(n=2&l<2);m1(n=3&!y=1)");
        same("three days", x.soon(-1), 3);
        same("day 0", x.soon(0), 1);
        same("day 1: the least", x.soon(1), 1);
        same("day 2", x.soon(2), 1);
        same("day 3", x.soon(3), -1);
        same("nothing is done", x.count(6), 0);
        text(x, "m1(1=1)");
        same("never", x.soon(-1), -2);
        same("never, day 5", x.soon(5), -2);
        same("below NONE ahead of never", x.soon(-2), -1);
        text(x, "m1(1=2)");
        same("now", x.soon(-1), 0);
        same("now, day 0", x.soon(0), -1);
        rota(x, 2, 0);
        text(x, "m1(p=0&n=0)");
        same("another's turn first", x.soon(-1), 2);
        same("none", x.soon(0), 8);
        same("then the lowest", x.soon(1), 0);
        text(x, "m1(p=0&n=0);m1(p=2&n=0&l=2);m1(p=2&n=1&y=2)");
        same("none first", x.soon(0), 8);
    }

    private static void held() {
        about("21 held");
        NineLaws x = town("m1(1=1)", 0, 0, 0);
        same("a -1", x.held(-1, 0, 0), -1);
        same("b 3", x.held(0, 3, 0), -1);
        same("makers 16", x.held(0, 0, 16), -1);
        same("makers -1", x.held(0, 0, -1), -1);
        same("needs two days for two", x.held(0, 1, 1), 0);
        same("one and the same at once", x.held(1, 1, 1), 12);
        makeAll(x, 0, 1, 2);
        same("friends hold", x.held(0, 1, 1), 12);
        same("against it: 0 falls", x.held(0, 1, 0), 0);
        same("against it: 1 falls later", x.held(1, 2, 14), 1);
        same("the newest", x.held(2, 2, 0), 2);
        rota(x, 0, 1);
        same("half and half", x.held(0, 2, 2), 0);
        same("the friend makes 1 anew, then 2 falls", x.held(1, 2, 2), 2);
        same("one of three at least", x.held(2, 2, 2), 12);
        text(x, "m1(p=1)");
        same("what they may not they do not", x.held(0, 1, 2), 12);
        same("the other has none to make", x.held(0, 1, 1), 1);
        same("nothing is done", x.count(6), 3);
        x.length(1);
        same("two in a row of one", x.held(0, 1, 3), 0);
        rota(x, 1);
        same("comes to stand on the first day", x.held(2, 2, 2), 12);
    }

    private static void number() {
        about("22 number");
        NineLaws x = town("v4-n+i*0(1=1);m1(1=1)", 0, 0, 0, 0);
        same("sort -1", x.number(-1, 0), WRONG);
        same("sort 4", x.number(4, 0), WRONG);
        same("what 3", x.number(0, 3), WRONG);
        same("what -1", x.number(0, -1), WRONG);
        same("all still", x.number(0, 0), 1);
        same("of worth 0", x.number(0, 1), 0);
        same("and below 1", x.number(0, 2), 1);
        x.kind(0, 1, 0);
        same("two are worth 2 each", x.number(0, 0), 2);
        same("4", x.number(0, 1), 4);
        same("by 1", x.number(0, 2), 1);
        makeAll(x, 0, 1);
        same("from an empty row", x.number(0, 0), 2);
        same("the length stays", x.count(2), 3);
        sameRow(x, "01");
        NineLaws y = town("v1(l=0&r=1);v2(l=1&r=2);v7(l=0&r=3);v0-9(r=4);m1(1=1)", 0, 0);
        rota(y, 0, 1, 0);
        y.kind(0, 4, 0);
        y.kind(1, 4, 1);
        y.make(-1);
        same("from the rota's place 0", y.number(0, 0), 3);
        same("above", y.number(0, 1), 7);
        text(y, "vr(l=0&r<3);m1(1=1)");
        same("a fraction: 0 for two of three days, or always 2", y.number(2, 0), 2);
        text(y, "v1(l=0&r=1);m1(1=1)");
        same("a fraction", y.number(2, 1), 2);
        same("of three", y.number(2, 2), 3);
    }

    // ---- promises 23 to 25 ----

    private static void deedAndLawful() {
        about("23 deed, 24 lawful");
        NineLaws x = new NineLaws();
        x.law(0, 2, 0, 0);
        x.law(0, 0, 0, 0);
        text(x, "m1(1=1)");
        same("deed -1", x.deed(-1, 0), false);
        same("deed 8", x.deed(8, 0), false);
        same("laws -1", x.deed(0, -1), false);
        same("laws 256", x.deed(0, 256), false);
        same("laws 255", x.deed(7, 255), true);
        same("laws that come later", x.deed(6, 128), true);
        same("deed 0", x.deed(0, 1), true);
        same("lawful -1", x.lawful(-1), -1);
        same("lawful 8", x.lawful(8), -1);
        same("empty row", x.lawful(7), 1);
        x.make(0);
        same("stands, but does not hold", x.lawful(0), 1);
        x.make(1);
        same("holds", x.lawful(0), 0);
        same("one of many holds", x.lawful(7), 0);
        same("told nothing", x.lawful(3), 1);
        same("another law", x.lawful(6), 1);
        same("told anew", x.deed(0, 4), true);
        same("lawful by the new", x.lawful(0), 1);
        same("refused changes nothing", x.deed(0, 256), false);
        same("still", x.lawful(0), 1);
    }

    private static void fits() {
        about("25 fits");
        NineLaws x = new NineLaws();
        x.law(0, 0, 0, 0);
        x.law(0, 1, 0, 0);
        x.law(0, 0, 0, 0);
        x.length(2);
        x.deed(0, 1);
        x.deed(1, 2);
        x.deed(2, 6);
        x.deed(3, 128);
        same("n -1", x.fits(-1, 0), -1);
        same("n 21", x.fits(21, 0), -1);
        same("what 3", x.fits(0, 3), -1);
        same("what -1", x.fits(0, -1), -1);
        same("no tape", x.fits(1, 0), -1);
        x.feed(0, 0, 0, 0, 0);
        same("11 of 10", x.fits(11, 0), -1);
        same("no such what", x.fits(1, 3), -1);
        same("the tape stays", x.count(4), 20);
        same("none told", x.fits(0, 0), 9);
        same("the tape is empty", x.count(4), 0);
        same("no such deed", fits(x, 0, 8, 0), -2);
        same("the tape is empty", x.count(4), 0);
        same("no 1 or 0", fits(x, 0, 0, 2), -2);
        same("the second is wrong", fits(x, 0, 0, 1, 9, 1), -2);
        feedBytes(x, 8, 0);
        same("NONE is looked at first", x.fits(1, 9), -1);
        x.rota(1);
        same("lawful: 0 holds not", fits(x, 0, 0, 1), 4);
        same("in none of these", fits(x, 2, 0, 1), 1);
        same("not lawful", fits(x, 0, 0, 0), 5);
        same("in all of these", fits(x, 1, 0, 0), 1);
        same("1 holds: with 0 alone", fits(x, 0, 1, 0), 2);
        same("both stand", fits(x, 1, 1, 0), 3);
        same("2 in none", fits(x, 2, 1, 0), 4);
        same("both told", fits(x, 0, 0, 0, 2, 0), 4);
        same("both told", fits(x, 0, 0, 0, 2, 1), 1);
        same("it is 0 0", fits(x, 2, 0, 0, 2, 1), 6);
        same("against itself", fits(x, 0, 0, 0, 0, 1), 0);
        same("none fits: all", fits(x, 1, 0, 0, 0, 1), 0);
        same("none fits: none", fits(x, 2, 0, 0, 0, 1), 0);
        same("a law there is not", fits(x, 0, 3, 0), 0);
        same("always lawful", fits(x, 0, 3, 1), 9);
        same("in none, of laws there are", fits(x, 2, 3, 1), 0);
        int[] twenty = new int[40];
        same("twenty", fits(x, 0, twenty), 5);
        same("no laws", new NineLaws().fits(0, 0), 0);
        feedBytes(x, new int[60]);
        same("21 of 30", x.fits(21, 0), -1);
        same("the tape stays", x.count(4), 60);
        same("20 of 30", x.fits(20, 0), 5);
        same("the whole tape is empty", x.count(4), 0);
    }

    // ---- promises 26 to 32 ----

    private static void seedAndDraw() {
        about("26 seed, 27 draw");
        NineLaws x = town("m1(1=1)", 0, 0, 0, 0);
        same("-1", x.seed(-1), false);
        same("65536", x.seed(65536), false);
        same("0", x.seed(0), true);
        same("X", x.count(5), 0);
        same("65535", x.seed(65535), true);
        same("X", x.count(5), 65535);
        same("0 days", x.draw(0), -1);
        same("101 days", x.draw(101), -1);
        same("X stays", x.count(5), 65535);
        same("a day", x.draw(1), 0);
        same("X of 65535", x.count(5), (int) ((25173L * 65535 + 13849) % 65536));
        x.seed(1);
        for (int maker = 0; maker < 4; maker++) {
            x.kind(maker, 4, maker);
        }
        rota(x, 0, 0, 0);
        same("two makers by X", x.draw(2), 2);
        int first = (25173 + 13849) % 65536;
        int second = (int) ((25173L * first + 13849) % 65536);
        same("the first", x.at(0), first % 4);
        same("the second", x.at(1), second % 4);
        same("who", x.book(1, 1), second % 4);
        same("the day", x.book(1, 0), 2);
        same("the rota goes on", x.count(7), 2);
        same("days", x.count(6), 3);
        same("X", x.count(5), second);
        same("100 days", x.draw(100) >= 0, true);
        same("days", x.count(6), 103);
        x.seed(1);
        x.length(3);
        x.kind(first % 4, 0, 0);
        same("a still one makes none", x.draw(1), 0);
    }

    private static void book() {
        about("28 book");
        NineLaws x = town("m1(1=1)", 0, 0);
        rota(x, 2, 1);
        x.length(1);
        x.make(-1);
        x.make(1);
        x.make(0);
        same("how many", x.count(8), 2);
        int[] due = {1, 1, 1, 8, 2, 2, 0, 1};
        for (int i = 0; i < 8; i++) {
            same("entry " + i / 4 + " " + i % 4, x.book(i / 4, i % 4), due[i]);
        }
        same("entry -1", x.book(-1, 0), -1);
        same("entry 2", x.book(2, 0), -1);
        same("what -1", x.book(0, -1), -1);
        same("what 4", x.book(0, 4), -1);
        x.make(7);
        same("a refused one is not told", x.count(8), 2);
        NineLaws y = town("m1(1=1)", 0, 0);
        y.length(1);
        for (int i = 0; i < 100; i++) {
            y.make(i % 2);
        }
        same("100", y.count(8), 100);
        same("still made", y.make(0), 1);
        same("no more is told", y.count(8), 100);
        same("days go on", y.count(6), 101);
        same("the last", y.book(99, 0), 99);
        same("no 101st", y.book(100, 0), -1);
    }

    private static void keepAndUndo() {
        about("29 keep, 30 undo");
        NineLaws x = town("m1(1=1)", 0, 0, 0);
        rota(x, 0, 1, 2);
        same("none was kept", x.undo(), false);
        x.make(2);
        x.make(1);
        x.seed(77);
        same("how many stand", x.keep(), 2);
        makeAll(x, 0, 0);
        x.draw(3);
        x.law(5, 0, 0, 0);
        x.deed(0, 1);
        x.kind(0, 1, 0);
        same("undone", x.undo(), true);
        sameRow(x, "21");
        same("place", x.count(7), 2);
        same("days", x.count(6), 2);
        same("X", x.count(5), 77);
        same("book", x.count(8), 2);
        same("no entry", x.book(2, 0), -1);
        same("laws stay", x.count(0), 4);
        x.make(0);
        same("told anew", x.book(2, 2), 0);
        x.undo();
        same("again", x.count(8), 2);
        same("a wrong length", x.length(7), false);
        same("undo stays", x.undo(), true);
        feedBytes(x, 9);
        same("a wrong rota", x.rota(1), false);
        same("undo stays", x.undo(), true);
        x.feed(1, 2, 3, 4, 5);
        x.undo();
        same("the tape is not kept", x.count(4), 20);
        x.make(1);
        x.keep();
        x.make(1);
        x.undo();
        sameRow(x, "211");
        x.rota(1);
        same("the rota was told since", x.undo(), false);
        x.keep();
        x.make(0);
        same("kept since", x.undo(), true);
        sameRow(x, "211");
        x.length(3);
        same("the length was told since", x.undo(), false);
        sameRow(x, "");
        same("an empty row is kept", x.keep(), 0);
        same("and undone", x.undo(), true);
        for (int i = 0; i < 120; i++) {
            x.make(i % 2);
        }
        x.undo();
        same("the book is shorter", x.count(8), 3);
        x.make(2);
        same("and is told again", x.count(8), 4);
    }

    /** The same question of the same row and place, when what it rests on has changed in between. */
    private static void askedAgain() {
        about("16 best, 17 all, 20 soon, asked again");
        NineLaws x = town("v5(l=p);v0-1(1=1);m1(1=1)", 0, 0, 0, 0);
        x.length(1);
        same("all: maker 0", x.all(1, 10), 0);
        rota(x, 1);
        same("all: another rota", x.all(1, 10), 1);
        text(x, "v5(l=p+1);v0-1(1=1);m1(1=1)");
        same("all: another text", x.all(1, 10), 2);
        same("best: as all", x.best(1, 1, 0), 2);
        same("best: another maker, by kinds", x.best(0, 1, 0), 8);
        x.kind(1, 4, 3);
        same("best: another kind", x.best(0, 1, 0), 3);
        same("all: whatever the kind", x.all(1, 10), 2);
        x.length(2);
        same("all: another length", x.all(2, 0), -2 - 1);
        x.make(2);
        same("all: another row", x.all(1, 10), 2);
        same("all: its worth", x.all(1, 1), 10);

        NineLaws y = town("m1(p=0&n=0)", 0, 0);
        rota(y, 2, 0);
        same("soon: 2's turn", y.soon(-1), 2);
        y.make(-1);
        same("soon: 0's turn", y.soon(-1), 1);
        text(y, "m1(p=0&n<2)");
        same("soon: another text", y.soon(-1), 3);
        y.make(1);
        same("soon: another row", y.soon(-1), 2);
        rota(y, 0);
        same("soon: another rota", y.soon(-1), 1);
        y.law(0, 0, 0, 1);
        y.length(2);
        same("soon: another law", y.soon(-1), 1);
        same("soon: by the new law", y.soon(0), 2);
        y.length(3);
        same("soon: another length", y.soon(-1), 1);
    }

    private static void check() {
        about("31 check");
        NineLaws late = town("m1(1=1)", 0);
        for (int i = 0; i < 3; i++) {
            late.draw(100);
        }
        late.make(0);
        same("a day above 255", check(late, 300, 0, 0), -1);
        late.keep();
        late.make(0);
        late.undo();
        same("what was undone is not right", check(late, 300, 0, 0, 301, 0, 0), 3);
        same("zeros are not right where none is", check(new NineLaws(), 0, 0, 0), 0);
        NineLaws x = town("m1(1=1)", 0, 0, 0);
        same("an empty book", x.check(0), -1);
        same("not so many", x.check(1), -2);
        same("below 0", x.check(-1), -2);
        same("far beyond", x.check(357913942), -2);
        x.make(2);
        x.make(-1);
        x.make(1);
        same("right", check(x, 0, 0, 2, 2, 0, 1), -1);
        same("the tape is empty", x.count(4), 0);
        same("a wrong day", check(x, 0, 0, 2, 1, 0, 1), 3);
        same("a wrong maker", check(x, 0, 3, 2, 2, 0, 1), 1);
        same("a wrong law", check(x, 0, 0, 2, 2, 0, 2), 5);
        same("the first of two", check(x, 0, 0, 1, 2, 0, 2), 2);
        same("some are lacking", check(x, 0, 0, 2), 3);
        x.feed(9, 9, 9, 9, 9);
        same("all are lacking", x.check(0), 0);
        same("the tape is empty", x.count(4), 0);
        same("one too many", check(x, 0, 0, 2, 2, 0, 1, 3, 0, 0), 6);
        x.feed(0, 0, 2, 2, 0);
        same("six of five", x.check(2), -2);
        same("the tape stays", x.count(4), 20);
        same("four bytes each", x.check(1), 3);
        same("the high byte counts", check(x, 1 << 24, 0, 2), 0);
        same("a negative one", check(x, -1, 0, 2), 0);
    }

    private static void count() {
        about("32 count");
        NineLaws x = town("v1(1=1);m1(1=1)", 0, 0);
        rota(x, 3, 1);
        x.length(4);
        x.seed(5);
        makeAll(x, 0, 1, 0);
        x.feed(0, 0, 0, 0, 0);
        int[] due = {2, 3, 4, 2, 20, 5, 3, 1, 3};
        for (int what = 0; what < due.length; what++) {
            same("what " + what, x.count(what), due[what]);
        }
        same("9", x.count(9), -1);
        same("-1", x.count(-1), -1);
        same("10", x.count(10), 3);
        same("11", x.count(11), 1);
        same("12", x.count(12), -1);
        same("15", x.count(15), -1);
    }

    /** No call throws, whatever it is given, in whatever state. */
    private static void everyCallAnswersAnything() {
        about("all, wrong inputs");
        int[] odd = {Integer.MIN_VALUE, Integer.MIN_VALUE + 1, -65536, -2, -1, 0, 1, 3, 4, 8, 9, 13, 20, 31, 32, 100,
            256, 65536, 715827882, 1073741824, Integer.MAX_VALUE - 1, Integer.MAX_VALUE};
        for (int a : odd) {
            NineLaws full = town("v1/[l-2](1=1);m1(1=1)", 0, 1, 2, 3, 4, 5, 6, 7);
            rota(full, 0, 1, 2, 3);
            full.length(4);
            oddCalls(new NineLaws(), a, odd);
            oddCalls(full, a, odd);
            same("eight laws", full.count(0), 8);
        }
    }

    private static void oddCalls(NineLaws x, int a, int[] odd) {
        for (int b : odd) {
            x.law(a, b, a, b);
            x.kind(a, b, a);
            x.run(a, b);
            x.best(a, b, a);
            x.best(b, a, b);
            x.all(a, b);
            x.bestRow(a, b);
            x.held(a, b, a);
            x.held(b, a, b);
            x.number(a, b);
            x.deed(a, b);
            x.feed(a, b, a, b, a);
            x.fits(a, b);
            x.book(a, b);
        }
        x.length(a);
        x.feed(a, a, a, a, a);
        x.rota(a);
        x.text(a);
        x.may(a);
        x.make(a);
        x.at(a);
        x.worth(a);
        x.would(a);
        x.mean(a);
        x.soon(a);
        x.lawful(a);
        x.seed(a);
        x.draw(a);
        x.check(a);
        x.count(a);
    }
}
