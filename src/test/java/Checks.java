/** What the tests by hand share: one line for each check, texts over the tape, towns and rows. */
abstract class Checks {
    static final int WRONG = -1000000;
    static final String FREE = "m1(1=1)";
    private static int checks;
    private static int wrong;
    private static String promise = "";

    /** Names the promise or the sentence of the document that the checks from here on are about. */
    static void about(String what) {
        promise = what;
    }

    static void same(String what, long answered, long due) {
        same(what, String.valueOf(answered), String.valueOf(due));
    }

    static void same(String what, boolean answered, boolean due) {
        same(what, String.valueOf(answered), String.valueOf(due));
    }

    static void same(String what, String answered, String due) {
        checks++;
        if (!answered.equals(due)) {
            wrong++;
            System.out.println(promise + ": " + what + " answered " + answered + ", due is " + due);
        }
    }

    static void sameRow(NineLaws x, String due) {
        same("the row", row(x), due);
    }

    static void finish(String name) {
        System.out.println(name + ": " + checks + " checks, " + wrong + " wrong");
        if (wrong != 0) {
            System.exit(1);
        }
    }

    static int four(int[] bytes, int from) {
        int value = 0;
        for (int i = from; i < from + 4; i++) {
            value = value << 8 | (i < bytes.length ? bytes[i] & 255 : 32);
        }
        return value;
    }

    static void feedBytes(NineLaws x, int... bytes) {
        for (int i = 0; i < bytes.length; i += 20) {
            x.feed(four(bytes, i), four(bytes, i + 4), four(bytes, i + 8), four(bytes, i + 12), four(bytes, i + 16));
        }
    }

    static void feedText(NineLaws x, String signs) {
        feedBytes(x, signs.chars().toArray());
    }

    static int text(NineLaws x, String signs) {
        feedText(x, signs);
        return x.text(signs.length());
    }

    static boolean rota(NineLaws x, int... makers) {
        feedBytes(x, makers);
        return x.rota(makers.length);
    }

    static int fits(NineLaws x, int what, int... told) {
        feedBytes(x, told);
        return x.fits(told.length / 2, what);
    }

    static void feedNumbers(NineLaws x, int... numbers) {
        for (int i = 0; i < numbers.length; i += 5) {
            int[] five = new int[5];
            for (int k = 0; k < 5 && i + k < numbers.length; k++) {
                five[k] = numbers[i + k];
            }
            x.feed(five[0], five[1], five[2], five[3], five[4]);
        }
    }

    static int check(NineLaws x, int... numbers) {
        feedNumbers(x, numbers);
        return x.check(numbers.length / 3);
    }

    /** A town with LAWS of these tags that need, bar and shut out nothing. */
    static NineLaws town(String text, int... tags) {
        NineLaws x = new NineLaws();
        for (int tag : tags) {
            x.law(tag, 0, 0, 0);
        }
        text(x, text);
        return x;
    }

    static void makeAll(NineLaws x, int... laws) {
        for (int law : laws) {
            x.make(law);
        }
    }

    static String row(NineLaws x) {
        StringBuilder all = new StringBuilder();
        for (int i = 0; i < 4 && x.at(i) != NineLaws.NONE; i++) {
            all.append(x.at(i));
        }
        return all.toString();
    }

    static int mayBy(NineLaws x, String text) {
        text(x, text);
        return x.may(1);
    }
}
