/**
 * The edges of THE LAW OF LAWS, a method for each sentence: what can stand in a TEXT and where its FAULTS are, and how
 * it is reckoned.
 */
public final class LawTextTests extends Checks {
    private static final String NUMBERS = "0123456789";
    private static final String FACTS = "lpknshfioyr";
    private static final String SUMS = "+-*/%";

    private LawTextTests() { }

    public static void main(String[] args) {
        bytesOfAText();
        textsInTurn();
        clauses();
        signsThatCanStand();
        digits();
        opened();
        closedAgain();
        firstFault();
        firstThatHolds();
        boundsOfV();
        boundsOfM();
        truth();
        comparisons();
        fromTheLeft();
        letterL();
        letterP();
        letterN();
        letterS();
        letterI();
        lettersOY();
        letterH();
        thirtyTwoBits();
        refusedParts();
        asMuchAsMatters();
        worthTogether();
        finish("LawTextTests");
    }

    // ---- THE LAW OF LAWS as a TEXT ----

    private static String longText(int bytes) {
        return (bytes % 2 == 0 ? "v11" : "v7") + "+0".repeat((bytes - 7) / 2) + "(1=1)";
    }

    private static void bytesOfAText() {
        about("a TEXT of at most 200 bytes (none at first)");
        NineLaws x = town("", 0);
        same("none at first", x.count(3), 0);
        same("nobody may", x.make(0), -2);
        same("199", text(x, longText(199)), 1);
        same("200", text(x, longText(200)), 1);
        same("201", text(x, longText(201)), -1);
        same("the tape stays", x.count(4), 220);
        same("the first 200 of 220", x.text(200), -1200);
        same("the tape is empty", x.count(4), 0);
        same("wrong at the last byte", text(x, longText(200).substring(0, 199) + "]"), -1199);
        same("the end comes too soon", text(x, longText(200).substring(0, 199)), -1199);
        same("the shortest", text(x, "v1(1=1)"), 1);
        same("one byte", text(x, "v"), -1001);
        feedText(x, "v1(1=1);m1(1=1)");
        same("the first seven", x.text(7), 1);
        same("the others are gone", x.count(4), 0);
        feedText(x, "v1(1=1)");
        same("a blank is read, too", x.text(8), -1007);
        feedText(x, longText(200));
        same("180 of 200", x.text(180), -1180);
        feedBytes(x, new int[180]);
        same("200 of 180", x.text(200), -1);
        same("181 of 180", x.text(181), -1);
        same("the tape stays", x.count(4), 180);
        same("180 of 180", x.text(180), -1000);
    }

    private static void textsInTurn() {
        about("THE LAW OF LAWS, in place of the one before");
        NineLaws x = town(FREE, 0);
        x.make(0);
        for (int i = 0; i < 20; i++) {
            String sent = "v" + (50 + i) + "+0*n".repeat(30 + i % 7) + "(1=1" + "&1=1".repeat(i % 9) + ")";
            same("text " + i, text(x, sent), 1);
            same("v of text " + i, x.worth(0), 50 + i);
            same("m of none", x.may(0), 0);
        }
        same("two CLAUSES", text(x, "v1(1=1);m1(1=1)"), 2);
        same("one CLAUSE", text(x, "v2(1=1)"), 1);
        same("the second is gone", x.may(0), 0);
        same("counted", x.count(3), 1);
        same("the first, too", x.worth(0), 2);
    }

    private static void clauses() {
        about("CLAUSES (14 at most) with a ; between two");
        StringBuilder all = new StringBuilder("v1(1=1)");
        for (int many = 1; many <= 14; many++) {
            NineLaws x = new NineLaws();
            same(many + " CLAUSES", text(x, all.toString()), many);
            same("counted", x.count(3), many);
            all.append(many % 2 == 0 ? ";v1(1=1)" : ";m1(1=1)");
        }
        String most = all.substring(0, 111);
        for (int sign = 0; sign < 256; sign++) {
            boolean letter = sign == 'v' || sign == 'm';
            same("a 15th that begins with " + sign, text(new NineLaws(), most + ";" + (char) sign),
                    letter ? -4112 : -1112);
        }
        same("the end behind ;", text(new NineLaws(), most + ";"), -1112);
        same("a whole 15th", text(new NineLaws(), all.toString()), -4112);
        same("no ; between", text(new NineLaws(), most + "v"), -1111);
    }

    /** The answers to a text with each byte in turn in place of the #. */
    private static void eachByte(String text, String fine, int otherwise, String[] others, int... answers) {
        NineLaws x = new NineLaws();
        int place = text.indexOf('#');
        int whole = (int) text.chars().filter(sign -> sign == ';').count() + 1;
        for (int sign = 0; sign < 256; sign++) {
            int due = otherwise;
            for (int i = 0; i < others.length; i++) {
                due = others[i].indexOf(sign) >= 0 ? answers[i] : due;
            }
            due = fine.indexOf(sign) >= 0 ? whole + (sign == ';' ? 1 : 0) : due;
            if (sign % 128 == 0) {
                x = new NineLaws();
            }
            same(text + " with byte " + sign, text(x, text.substring(0, place) + (char) sign + text.substring(place + 1)),
                    due);
        }
    }

    private static void signsThatCanStand() {
        about("FAULTS: 1 what can't stand there");
        String[] none = {};
        eachByte("#1(1=1)", "vm", -1000, none);
        eachByte("v#(1=1)", NUMBERS + FACTS, -1001, new String[] {"["}, -1002);
        eachByte("v1#1(1=1)", SUMS + NUMBERS, -1002, new String[] {"("}, -1004);
        eachByte("v1+#(1=1)", NUMBERS + FACTS, -1003, new String[] {"["}, -1004);
        eachByte("v1*#(1=1)", NUMBERS + FACTS, -1003, new String[] {"["}, -1004);
        eachByte("vl#1(1=1)", SUMS, -1002, new String[] {"("}, -1004);
        eachByte("v[#](1=1)", NUMBERS + FACTS, -1002, new String[] {"["}, -1003);
        eachByte("v[1#1](1=1)", SUMS + NUMBERS, -1003, new String[] {"]"}, -1004);
        eachByte("v[1]#1(1=1)", SUMS, -1004, new String[] {"("}, -1006);
        eachByte("v1(#1=1)", NUMBERS + "!", -1003, new String[] {"(", "[", FACTS}, -1008, -1005, -1004);
        eachByte("v1(!#1=1)", NUMBERS + "!", -1004, new String[] {"(", "[", FACTS}, -1009, -1006, -1005);
        eachByte("v1(1#1)", "<>=", -1004, new String[] {NUMBERS + SUMS}, -1006);
        eachByte("v1(1=#)", NUMBERS + FACTS, -1005, new String[] {"["}, -1006);
        eachByte("v1(1=1#1=1)", "&|", -1006, new String[] {NUMBERS + SUMS, ")"}, -1008, -1007);
        eachByte("v1(!1=1#1=1)", "&|", -1007, new String[] {NUMBERS + SUMS, ")"}, -1009, -1008);
        eachByte("v1((1=1)#1=1)", "&|", -1008, new String[] {")"}, -1009);
        eachByte("v1(1=1&#=1)", NUMBERS + FACTS, -1007, new String[] {"!", "(", "["}, -1008, -1008, -1008);
        eachByte("v1(1=1|#=1)", NUMBERS + FACTS, -1007, new String[] {"!", "(", "["}, -1008, -1008, -1008);
        eachByte("v1(1=1)#v1(1=1)", ";", -1007, none);
        eachByte("v1(1=1);#1(1=1)", "vm", -1008, none);
    }

    private static void digits() {
        about("a number of one to five digits; 2 a sixth digit, at it");
        String[][] around = {{"v", "(1=1)"}, {"v[", "](1=1)"}, {"v1+", "(1=1)"}, {"v1(", "=1)"}, {"v1(1=", ")"},
            {"v1(!1<[", "])"}, {"v1(1=1);m", "(1=1)"}};
        for (String[] a : around) {
            for (String digit : new String[] {"0", "1", "9"}) {
                for (int many = 0; many <= 8; many++) {
                    String sent = a[0] + digit.repeat(many) + a[1];
                    int due = many == 0 ? -1000 - a[0].length() : many <= 5 ? 1 : -2000 - a[0].length() - 5;
                    due = due == 1 && a[0].indexOf(';') > 0 ? 2 : due;
                    same(sent, text(new NineLaws(), sent), due);
                }
            }
        }
        same("a letter behind five", text(new NineLaws(), "v12345l(1=1)"), -1006);
        same("a number for each place", text(new NineLaws(), "v12345+12345*12345(12345=12345)"), 1);
        same("99999 is the most", value("v99999/1000+1(i=1)"), 100);
        same("that many", value("v99999-99950(i=1)"), 49);
        same("noughts ahead", value("v00012+0(i=1)"), 12);
        same("0", value("v0(1=1)"), 0);
        same("nine of each", value("v98765-98700(i=1)"), 65);
    }

    private static void nested(String head, String open, int many, String mid, String close, String tail, int most) {
        String sent = head + open.repeat(many) + mid + close.repeat(many) + tail;
        same(sent, text(new NineLaws(), sent), many <= most ? 1 : -5000 - head.length() - most);
    }

    private static void opened() {
        about("5 a seventh of ( [ ! that are open in one another, at it (the ( of the CLAUSE counts)");
        for (int many = 0; many <= 9; many++) {
            nested("v", "[", many, "1", "]", "(1=1)", 6);
            nested("m1*", "[", many, "1", "]", "(1=1)", 6);
            nested("v1(", "(", many, "1=1", ")", ")", 5);
            nested("v1(", "!", many, "1=1", "", ")", 5);
            nested("v1(", "[", many, "1", "]", "=1)", 5);
            nested("v1(1=", "[", many, "1", "]", ")", 5);
            nested("v1(!1=", "[", many, "1", "]", ")", 4);
            nested("v1(!(1=", "[", many, "1", "]", "))", 3);
            nested("v1([1+", "[", many, "1", "]", "]=1)", 4);
            nested("v1(1=1&", "(", many, "1=1", ")", ")", 5);
            nested("v1(1=1|", "!", many, "1=1", "", ")", 5);
        }
        same("six of three sorts", text(new NineLaws(), "v1(!(!([1]=1)))"), 1);
        same("a seventh of three sorts", text(new NineLaws(), "v1(!(!([[1]]=1)))"), -5008);
        same("a seventh (", text(new NineLaws(), "v1(!(!(!(1=1))))"), -5008);
        same("a seventh !", text(new NineLaws(), "v1(!(!((!1=1))))"), -5008);
        same("the deepest E", value("v1+1*[1+1*[1+1*[1+1*[1+1*[1+1*[1+1]]]]]](i=1)"), 8);
        same("the deepest C", value("v3(1=1&(1=1&(1=1&(1=1&(1=1&(2=1+1*1|1=1))))))"), 6);
        same("the deepest E in C", value("v4(1*1+6=1+1*[1+1*[1+1*[1+1*[1+1*[1+1]]]]])"), 8);
    }

    private static void closedAgain() {
        about("a ! is open till its PIECE ends; the E of a CLAUSE stands ahead of its (");
        String[] fine = {"v1(!!!!!1=1&!!!!!1=1)", "v1(!!!!!1=1|!!!!!1=1)", "v1((!!!!1=1)&!!!!!1=1)",
            "v1(!(1=1)&(((((1=1))))))", "v1(!1=1&(((((1=1))))))", "v1(((((!1=1|!1=1)))))", "v1([[[[[1]]]]]=[[[[[1]]]]])",
            "v[[[[[[1]]]]]]((((((1=1))))))", "v[[[[[[1]]]]]]+[[[[[[1]]]]]](1=1)", "v1(((((((1=1"};
        for (int i = 0; i < fine.length - 1; i++) {
            same(fine[i], text(new NineLaws(), fine[i]), 1);
            same("twice " + fine[i], text(new NineLaws(), fine[i] + ";" + fine[i]), 2);
        }
        same("never closed", text(new NineLaws(), fine[fine.length - 1]), -5008);
        same("! is open over its (C)", text(new NineLaws(), "v1(!((1=1)&((((1=1))))))"), -5014);
        same("! is open over both E", text(new NineLaws(), "v1(!!!!1=1+[[1]])"), -5012);
        same("and not behind them", text(new NineLaws(), "v1(!!!!1=1&1=1+[[1]])"), 1);
        same("!! is open over the inner one", text(new NineLaws(), "v1(!!((((1=1)))))"), -5008);
    }

    private static void firstFault() {
        about("FAULTS, the first from the left");
        same("1 ahead of 2", text(new NineLaws(), "v1((=123456"), -1004);
        same("2 ahead of 1", text(new NineLaws(), "v123456("), -2006);
        same("5 ahead of 1", text(new NineLaws(), "v[[[[[[[+"), -5007);
        same("1 ahead of 5", text(new NineLaws(), "v[[[[[[)["), -1007);
        same("2 ahead of 5", text(new NineLaws(), "v[[[[[[123456["), -2012);
        same("1 in the 14th ahead of 4", text(new NineLaws(), "v1(1=1);".repeat(13) + "v1(1=);v"), -1109);
        same("2 in the 14th ahead of 4", text(new NineLaws(), "v1(1=1);".repeat(13) + "v123456;v"), -2110);
        NineLaws x = town("v7(1=1);m1(1=1)", 0);
        x.make(0);
        String[] bad = {"v1(1=1);", "v123456(1=1)", "v[[[[[[[1", "v1(1=1);".repeat(14) + "v"};
        int[] due = {-1008, -2006, -5007, -4112};
        for (int i = 0; i < bad.length; i++) {
            same(bad[i], text(x, bad[i]), due[i]);
            same("the tape is empty", x.count(4), 0);
            same("the TEXT before stays", x.worth(3), 7);
            same("whole", x.count(3), 2);
            same("and m", x.may(3), 1);
        }
    }

    // ---- THE LAW OF LAWS as it is reckoned ----

    /** What the row 0 1 of LENGTH 3 is worth to SORT 2: LAW 0 of TAG 7, LAW 1 of TAG 4 that needs LAW 0. */
    private static int value(String text) {
        NineLaws x = new NineLaws();
        x.law(7, 0, 0, 0);
        x.law(4, 1, 0, 0);
        text(x, FREE);
        makeAll(x, 0, 1);
        text(x, text);
        return x.worth(2);
    }

    /** Whether a C holds, for all. */
    private static boolean holds(String c) {
        int value = value("v5(" + c + ");v1(i=9)");
        same("all or none: " + c, value == 0 || value == 10, true);
        return value == 10;
    }

    private static void firstThatHolds() {
        about("of the first one of a letter whose C holds the E (none: 0)");
        same("the 14th", value("v9(1=2);".repeat(13) + "v3(i=1)"), 3);
        same("the first of 14", value("v3(i=1)" + ";v9(i=1)".repeat(13)), 3);
        same("the 13th of 14", value("m1(1=2);".repeat(12) + "v3(i=1);v8(i=1)"), 3);
        same("none of 14", value("v9(1=2);".repeat(13) + "v9(1=2)"), 0);
        same("none of this letter", value("m1(1=1)"), 0);
        same("0 by a first one is 0", value("v0(1=1);v9(1=1)"), 0);
        NineLaws x = town(FREE, 0);
        same("m: the 14th", mayBy(x, "m1(1=2);".repeat(13) + "m1(1=1)"), 1);
        same("m: the first of 14", mayBy(x, "m0(1=1)" + ";m1(1=1)".repeat(13)), 0);
        same("m: none", mayBy(x, "m1(1=2)"), 0);
        same("m: none of this letter", mayBy(x, "v1(1=1)"), 0);
    }

    private static void boundsOfV() {
        about("v (-100 to 100), beyond its bounds the bound");
        for (int v = 98; v <= 103; v++) {
            same("v " + v, value("v" + v + "(i=1)"), Math.min(v, 100));
            same("v -" + v, value("v0-" + v + "(i=1)"), -Math.min(v, 100));
        }
        same("the most there is", value("v65536*32767+65535(i=1)"), 100);
        same("the least there is", value("v65536*32768(i=1)"), -100);
        same("within, each for itself", value("v150-i*100(1=1)"), 150);
        same("bounded, each for itself", value("v150-i*300(1=1)"), 0);
    }

    private static void boundsOfM() {
        about("m (above 0; 0 to 1), beyond its bounds the bound");
        String[] above = {"1", "2", "99999", "65536*32767+65535", "5-4", "k+1"};
        String[] not = {"0", "0-1", "0-99999", "65536*32768", "5-5", "65536*65536", "k"};
        for (String e : above) {
            same("m " + e, mayBy(town(FREE, 0, 0), "m" + e + "(1=1)"), 3);
        }
        for (String e : not) {
            same("m " + e, mayBy(town(FREE, 0, 0), "m" + e + "(1=1)"), 0);
        }
        NineLaws x = town("m2(l=1);m3(1=1)", 0, 0, 0, 0, 0, 0, 0, 0);
        same("m above 1 is this LAW's alone", x.may(0), 255);
    }

    private static void truth() {
        about("PARTS one of which must hold; PIECES all of which must; !PIECE");
        for (int bits = 0; bits < 8; bits++) {
            boolean a = (bits & 1) != 0;
            boolean b = (bits & 2) != 0;
            boolean c = (bits & 4) != 0;
            String sa = a ? "1=1" : "1=2";
            String sb = b ? "l<9" : "l>9";
            String sc = c ? "r>2" : "r<2";
            same("or and", holds(sa + "|" + sb + "&" + sc), a || b && c);
            same("and or", holds(sa + "&" + sb + "|" + sc), a && b || c);
            same("and and", holds(sa + "&" + sb + "&" + sc), a && b && c);
            same("or or", holds(sa + "|" + sb + "|" + sc), a || b || c);
            same("(or) and", holds("(" + sa + "|" + sb + ")&" + sc), (a || b) && c);
            same("and (or)", holds(sa + "&(" + sb + "|" + sc + ")"), a && (b || c));
            same("not and", holds("!" + sa + "&" + sb + "|" + sc), !a && b || c);
            same("and not", holds(sa + "&!" + sb + "&" + sc), a && !b && c);
            same("not (and) or", holds("!(" + sa + "&" + sb + ")|" + sc), !(a && b) || c);
            same("not (or) and", holds("!(" + sa + "|" + sb + ")&" + sc), !(a || b) && c);
            same("not not", holds("!!" + sa + "&!!!" + sb), a && !b);
            same("two (C)", holds("(" + sa + "&" + sb + ")|(" + sb + "&" + sc + ")"), a && b || b && c);
        }
    }

    private static void comparisons() {
        about("E, one of < > =, and E");
        String[] numbers = {"[0-2]", "[0-1]", "0", "1", "2"};
        for (int a = 0; a < numbers.length; a++) {
            for (int b = 0; b < numbers.length; b++) {
                same(a + "<" + b, holds(numbers[a] + "<" + numbers[b]), a < b);
                same(a + ">" + b, holds(numbers[a] + ">" + numbers[b]), a > b);
                same(a + "=" + b, holds(numbers[a] + "=" + numbers[b]), a == b);
            }
        }
        String[] yes = {"1<2", "2>1", "1=1"};
        String[] no = {"2<1", "1>2", "1=2"};
        for (int i = 0; i < 3; i++) {
            same("not " + yes[i], holds("!" + yes[i]), false);
            same("not " + no[i], holds("!" + no[i]), true);
            same("not not " + yes[i], holds("!!" + yes[i] + "&!(" + no[i] + ")"), true);
        }
        same("the least is below the most", holds("65536*32768<65536*32767+65535"), true);
        same("the most is above the least", holds("65536*32767+65535>65536*32768"), true);
    }

    private static void fromTheLeft() {
        about("TERMS with + or -; FACTORS with * / %; from the left on");
        String[] e = {"9-4-3", "9-4+3", "9+4-3", "9-[4-3]", "8/4/2", "8/[4/2]", "8*3/5", "8/5*3", "9%5*3", "9*5%7",
            "9%5%3", "9/2%3", "9%4/2", "2+3*4", "2*3+4", "20-2*3-1", "20-[2*3-1]", "2*[3+4]*5", "1-2-3-4-5"};
        int[] due = {2, 8, 10, 8, 1, 4, 4, 3, 12, 3, 1, 1, 0, 14, 10, 13, 15, 70, -13};
        for (int i = 0; i < e.length; i++) {
            same(e[i], value("v" + e[i] + "(i=1)"), due[i]);
            same(e[i] + " in C", holds("0" + (due[i] < 0 ? "" : "+") + due[i] + "=" + e[i]), true);
        }
        same("/ goes towards 0", value("v[0-9]/4(i=1)"), -2);
        same("/ by one below 0", value("v9/[0-4](i=1)"), -2);
        same("/ of two below 0", value("v[0-9]/[0-4](i=1)"), 2);
        same("% has the sign of the first", value("v[0-9]%4(i=1)"), -1);
        same("% by one below 0", value("v9%[0-4](i=1)"), 1);
        same("% of two below 0", value("v[0-9]%[0-4](i=1)"), -1);
    }

    private static void letterL() {
        about("l the LAW, k the TAG");
        NineLaws x = town("vl*10+k(1=1);m1(1=1)", 9, 8, 7, 6, 5, 4, 3, 0);
        x.length(1);
        for (int law = 0; law < 8; law++) {
            x.make(law);
            same("l and k", x.worth(0), law * 10 + (law == 7 ? 0 : 9 - law));
        }
        for (int law = 0; law < 8; law++) {
            same("l in m", mayBy(x, "m1(l=" + law + ")"), 1 << law);
            same("k in m", mayBy(x, "m1(k=" + (law == 7 ? 0 : 9 - law) + ")"), 1 << law);
        }
        same("there is no l 8", mayBy(x, "m1(l=8)"), 0);
    }

    private static void letterP() {
        about("p the SORT, or the MAKER");
        NineLaws x = town("vp+5(1=1);m1(p=l)", 0, 0, 0, 0, 0);
        for (int who = 0; who < 4; who++) {
            same("p in m", x.may(who), 1 << who);
        }
        x.make(0);
        for (int who = 0; who < 4; who++) {
            same("p in v", x.worth(who), 5 + who);
        }
    }

    private static void letterN() {
        about("n how many stand, f whether THE ROW is full, r LENGTH");
        for (int length = 1; length <= 4; length++) {
            NineLaws x = town("vn*10+f*5+r(i=0);m1(1=1)", 0);
            x.length(length);
            for (int n = 0; n <= length; n++) {
                String all = "m1(n=" + n + "&f=" + (n == length ? 1 : 0) + "&r=" + length + ");";
                text(x, all + "vn*10+f*5+r(i=0)");
                same("n, f and r in m", x.may(0), 1);
                same("n, f and r in v", x.worth(0), n == 0 ? 0 : n * 10 + (n == length ? 5 : 0) + length);
                text(x, FREE);
                x.make(0);
            }
            text(x, "vn(i=0)");
            same("not more than LENGTH", x.worth(0), length);
        }
    }

    private static void letterS() {
        about("s how often this LAW stands");
        NineLaws x = town(FREE, 0, 0);
        x.length(4);
        for (int times = 0; times <= 4; times++) {
            same("s in m", mayBy(x, "m1(l=0&s=" + times + ");m1(l=1&s=0)"), 3);
            text(x, "vs(i=0);m1(1=1)");
            same("s in v", x.worth(0), times);
            x.make(0);
        }
        makeAll(x, 1);
        same("one of four fell", mayBy(x, "m1(l=0&s=3);m1(l=1&s=1)"), 3);
    }

    private static void letterI() {
        about("i its PLACE (in m: 0)");
        NineLaws x = town(FREE, 0);
        x.length(4);
        for (int place = 0; place < 4; place++) {
            x.make(0);
            text(x, "v7(i=" + place + ");m1(i=0)");
            same("i in v", x.worth(0), 7);
            same("i in m", x.may(0), 1);
            text(x, "v7(i=" + (place + 1) + ");m1(i>0);m1(i<0)");
            same("no such PLACE", x.worth(0), 0);
            same("no other in m", x.may(0), 0);
            text(x, FREE);
        }
        text(x, "v10-i(1=1)");
        same("all PLACES", x.worth(0), 10 + 9 + 8 + 7);
    }

    private static void lettersOY() {
        about("o the oldest LAW, y the newest (both 8 if none stands)");
        for (int length = 1; length <= 4; length++) {
            NineLaws x = town(FREE, 0, 0, 0, 0, 0, 0, 0, 0);
            x.length(length);
            same("8 if none stands", mayBy(x, "m1(o=8&y=8)"), 255);
            for (int law = 0; law < 8; law++) {
                text(x, FREE);
                x.make(law);
                int oldest = Math.max(0, law - length + 1);
                same("o and y in m", mayBy(x, "m1(o=" + oldest + "&y=" + law + ")"), 255);
                text(x, "vo*10+y(i=0)");
                same("o and y in v", x.worth(0), Math.min(100, oldest * 10 + law));
            }
        }
    }

    private static void letterH() {
        about("h whether it HOLDS (1, 0)");
        NineLaws x = new NineLaws();
        x.law(0, 2, 0, 0);
        x.law(0, 0, 0, 0);
        x.law(0, 0, 0, 0);
        same("none stands: none holds", mayBy(x, "m1(h=0)"), 7);
        text(x, FREE);
        x.make(0);
        same("0 stands and lacks 1", mayBy(x, "m1(h=0)"), 7);
        text(x, "vh+5(1=1);m1(1=1)");
        same("h in v", x.worth(0), 5);
        x.make(1);
        same("h of both", x.worth(0), 12);
        same("h in m", mayBy(x, "m1(h=1)"), 3);
    }

    private static void thirtyTwoBits() {
        about("All is reckoned with 32 bits, as the machine does");
        String most = "[65536*32767+65535]";
        String least = "[65536*32768]";
        String[] e = {most + "%100", "[" + most + "+1]%100", least + "%100", "[" + least + "-1]%100", "[0-" + least + "]%100",
            "[0-" + most + "]%100", "[" + most + "*2]", "[" + least + "*2+3]", "[" + most + "*" + most + "]",
            "[99999*99999]%1000/10", least + "/[0-1]%100", least + "%[0-1]+4", least + "/" + least, most + "/" + least,
            least + "/" + most, least + "%" + most, "[65536*65536]", "[65535*65537]%100", "46341*46341%100"};
        int[] due = {47, -48, -48, 47, -48, -47, -2, 3, 1, 40, -48, 4, 1, 0, -1, -1, 0, -1, -15};
        for (int i = 0; i < e.length; i++) {
            same(e[i], value("v" + e[i] + "(i=1)"), due[i]);
        }
        same("in C, too", holds(most + "+1<0&" + least + "-1>0"), true);
        same("= of wrapped ones", holds("65536*65536=0&" + most + "+1=" + least), true);
        NineLaws x = town("m65536*32768-1(1=1)", 0);
        same("in m, too: above 0", x.may(0), 1);
        text(x, "m65536*32767+65535+1(1=1)");
        same("and below", x.may(0), 0);
    }

    private static void refusedParts() {
        about("what is divided by 0 is REFUSED: the whole C does not hold, the whole E is 0");
        String[] zero = {"1/0", "0/0", "1%0", "0%0", "1/[5-5]", "1%[65536*65536]", "2*[3+1/0]", "[1/0]*0", "0*1/0",
            "65536*32768/0", "1/0%5", "9+1/0-1/0"};
        for (String e : zero) {
            same("E " + e, value("v" + e + "(i=1);v7(i=1)"), 0);
            same("E 5+" + e, value("v5+" + e + "(i=1);v7(i=1)"), 0);
            String[] c = {e + "=0", "0=" + e, e + "<1", "1>" + e, "!" + e + "=7", "!!" + e + "=0", "(" + e + "=0)",
                "!(" + e + "=7)", e + "=0|1=1", "1=1&" + e + "=0", "(" + e + "=0|1=1)|1=1", "!(" + e + "=0)|1=1",
                "1=2|" + e + "=0|1=1", "1=2&1=1|" + e + "=0|1=1"};
            for (String all : c) {
                same("C " + all, value("v5(" + all + ");v7(i=1)"), 7);
            }
            same("m " + e, mayBy(town(FREE, 0), "m5+" + e + "(1=1);m1(1=1)"), 0);
            same("C of m " + e, mayBy(town(FREE, 0), "m0(" + e + "=0|1=1);m1(1=1)"), 1);
        }
        same("by one that is not 0", value("v8/[5-6]+20(i=1)"), 12);
        same("only where it is 0", value("v6/i(1=1)"), 6);
        same("for that LAW", value("v6/l+1(l=1);v30/[l-1](1=1)"), 7 - 30);
    }

    private static void asMuchAsMatters() {
        about("Of a C as much is asked, from the left, as matters");
        String[] five = {"1=1|1/0=1", "1=1|1=2|1/0=1", "1=2|1=1|1/0=1", "1=2&1/0=1|1=1", "1=1&1=2&1/0=1|1=1",
            "(1=1|1/0=1)&1=1", "!(1=2&1/0=1)", "!(1=2&1/0=1)|1/0=1", "1=1&(1=1|1/0=1)", "(1=2&1/0=1)|1=1",
            "1=1|(1/0=1|1/0=1)", "1=1|!1/0=1", "1=2&(1/0=1)|1=1", "1=2&!1/0=1|1=1", "1=2&1/0=1&1/0=1|1=1|1/0=1",
            "!1=2|1/0=1", "!1=1&1/0=1|1=1"};
        String[] seven = {"1=2|1/0=1", "1=1&1/0=1", "1=1&1/0=1|1=1", "!(1=1|1/0=1)", "(1=2|1/0=1)|1=1",
            "1=2|(1=1&1/0=1)|1=1", "1/0=1|1=1", "1=2&1=1|1/0=1"};
        for (String c : five) {
            same(c, value("v5(" + c + ");v7(1=1)"), 10);
        }
        for (String c : seven) {
            same(c, value("v5(" + c + ");v7(1=1)"), 14);
        }
    }

    private static void worthTogether() {
        about("WORTH: v of all PLACES, together");
        NineLaws x = town("v[100-p*100](1=1);m1(1=1)", 0);
        x.length(4);
        for (int n = 0; n <= 4; n++) {
            same("to 0", x.worth(0), 100 * n);
            same("to 1", x.worth(1), 0);
            same("to 2", x.worth(2), -100 * n);
            same("to 3", x.worth(3), -100 * n);
            x.make(0);
        }
        same("full, it stays", x.worth(0), 400);
    }
}
