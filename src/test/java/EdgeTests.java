import java.math.BigInteger;

/**
 * The edges that the document's Terms name (LawTextTests has those of THE LAW OF LAWS), a method for each sentence: the
 * last that is fine and the first that is not, the empty and the full, what goes round.
 */
public final class EdgeTests extends Checks {
    private EdgeTests() { }

    public static void main(String[] args) {
        lawsAndTheirTags();
        needs();
        bars();
        shutsOut();
        lengthAndRow();
        standingTwice();
        rotaRound();
        kindsAtFirst();
        want();
        keepKind();
        push();
        toldKind();
        runOfDays();
        ring();
        ringOfEach();
        longRing();
        bestDays();
        allDays();
        mostAndLeastAhead();
        bestRows();
        quietRows();
        soonest();
        soonByTurns();
        soonFar();
        longestHeld();
        lengths();
        deeds();
        fitting();
        drawn();
        bookFull();
        keptAndUndone();
        keptStill();
        checked();
        ownMemory();
        manyCalls();
        finish("EdgeTests");
    }

    // ---- LAWS and THE ROW ----

    private static void lawsAndTheirTags() {
        about("LAWS 0 to 7: a TAG (0 to 9)");
        NineLaws low = town(FREE, 0, 1, 2, 3, 4, 5, 6, 7);
        same("a ninth", low.law(0, 0, 0, 0), -1);
        text(low, "vk*10+l(1=1);m1(1=1)");
        for (int law = 0; law < 8; law++) {
            low.length(1);
            same("number " + law, low.make(law), 8);
            same("stands", low.at(0), law);
            same("its tag and number", low.worth(0), Math.min(100, 11 * law));
        }
        same("eight is none", low.make(8), -1);
        NineLaws high = town("vk(1=1);m1(1=1)", 8, 9);
        high.length(1);
        makeAll(high, 0);
        same("tag 8", high.worth(0), 8);
        makeAll(high, 1);
        same("tag 9", high.worth(0), 9);
        same("two LAWS, then no third", high.make(2), -1);
    }

    private static void needs() {
        about("NEEDS (a set of LAWS, as bits)");
        for (int needed = 0; needed < 8; needed++) {
            NineLaws x = new NineLaws();
            for (int law = 0; law < 8; law++) {
                x.law(0, law == (needed + 1) % 8 ? 1 << needed : 0, 0, 0);
            }
            text(x, FREE);
            int needy = (needed + 1) % 8;
            x.make(needy);
            same("lacks " + needed, x.holding(), 0);
            x.make((needed + 2) % 8);
            same("another is of no use", x.holding(), 1 << (needed + 2) % 8);
            x.make(needed);
            same("has " + needed, x.holding(), 1 << needy | 1 << needed | 1 << (needed + 2) % 8);
        }
        NineLaws all = new NineLaws();
        all.law(0, 255, 0, 0);
        text(all, FREE);
        all.make(0);
        same("needs LAWS there are not", all.holding(), 0);
        NineLaws two = new NineLaws();
        two.law(0, 6, 0, 0);
        two.law(0, 0, 0, 0);
        two.law(0, 0, 0, 0);
        text(two, FREE);
        makeAll(two, 0, 1);
        same("one of two is not all", two.holding(), 2);
        makeAll(two, 2);
        same("all", two.holding(), 7);
        makeAll(two, 0);
        same("the oldest fell, it stands again", two.holding(), 7);
        makeAll(two, 0);
        same("one that it needs fell", two.holding(), 4);
    }

    private static void bars() {
        about("BARS (LAWS that may not be made)");
        for (int barred = 0; barred < 8; barred++) {
            NineLaws x = new NineLaws();
            for (int law = 0; law < 8; law++) {
                x.law(0, 0, law == 7 - barred ? 1 << barred : 0, 0);
            }
            text(x, FREE);
            same("nothing stands", x.may(0), 255);
            x.make(7 - barred);
            same("bars " + barred, x.may(0), 255 - (1 << barred));
            same("MAY not", x.make(barred), -2);
        }
        NineLaws none = new NineLaws();
        none.law(0, 0, 255, 0);
        text(none, FREE);
        none.make(0);
        same("bars all", none.may(3), 0);
    }

    private static void shutsOut() {
        about("SHUTS OUT (MAKERS who may make nothing)");
        for (int who = 0; who < 4; who++) {
            NineLaws x = new NineLaws();
            x.law(0, 2, 0, 1 << who);
            x.law(0, 0, 0, 0);
            text(x, FREE);
            x.length(2);
            x.make(0);
            same("one that does not hold shuts none out", x.may(who), 3);
            rota(x, (who + 1) % 4);
            x.make(1);
            for (int maker = 0; maker < 4; maker++) {
                same(who + " is shut out, asked for " + maker, x.may(maker), maker == who ? 0 : 3);
            }
        }
        NineLaws all = new NineLaws();
        all.law(0, 0, 0, 15);
        text(all, FREE);
        all.make(0);
        same("all", all.may(0) + all.may(1) + all.may(2) + all.may(3), 0);
        same("and none is a day", all.make(-1), 8);
    }

    private static void lengthAndRow() {
        about("THE ROW has a LENGTH (1 to 4; 3 at first)");
        for (int n = 1; n <= 4; n++) {
            NineLaws x = town(FREE, 0, 0, 0, 0, 0);
            if (n != 3) {
                x.length(n);
            }
            for (int i = 0; i < n; i++) {
                same("stand", x.count(1), i);
                same("none there", x.at(i), -1);
                same("none falls", x.make(i), 8);
                same("behind the newest", x.at(i), i);
                same("the oldest", x.at(0), 0);
            }
            for (int i = 0; i < 6; i++) {
                same("the oldest falls", x.make((n + i) % 5), i % 5);
                same("full", x.count(1), n);
                same("the newest", x.at(n - 1), (n + i) % 5);
                same("the oldest now", x.at(0), (i + 1) % 5);
                same("none behind the newest", x.at(n), -1);
            }
            x.seed(777);
            same("the same LENGTH again", x.length(n), true);
            same("is empty then", x.count(1), 0);
            same("of the same LENGTH", x.count(2), n);
            same("DAYS, X and THE BOOK stay", x.count(6) * 10 + x.count(8) + x.count(5), (n + 6) * 11 + 777);
        }
    }

    private static void standingTwice() {
        about("One may stand in it twice");
        NineLaws x = town("vs(1=1);m1(1=1)", 0, 0);
        x.length(4);
        for (int i = 1; i <= 4; i++) {
            same("made", x.make(0), 8);
            same("so often", x.worth(0), i * i);
            same("holds once", x.holding(), 1);
        }
        same("one of four falls", x.make(1), 0);
        same("three stand", x.worth(0), 9 + 1);
        same("it still holds", x.holding(), 3);
        makeAll(x, 1, 1);
        sameRow(x, "0111");
        same("the last of it falls", x.make(1), 0);
        same("it holds no more", x.holding(), 2);
    }

    // ---- THE ROTA, KINDS, DAYS ----

    private static void rotaRound() {
        about("THE ROTA (1 to 4; at first MAKER 0 alone); its PLACE; behind its end from 0; DAYS are counted");
        NineLaws alone = town(FREE, 0);
        makeAll(alone, 0, -1, 0);
        same("alone, PLACE 0 comes again", alone.count(7), 0);
        same("DAYS", alone.count(6), 3);
        same("MAKER 0", alone.book(1, 1), 0);
        for (int n = 1; n <= 4; n++) {
            NineLaws x = town("m1(p=3-l)", 0, 0, 0, 0);
            feedBytes(x, 3, 2, 1, 0);
            same("n " + n, x.rota(n), true);
            for (int w = 0; w < 5; w++) {
                same("PLACE " + w + " of " + n, x.count(10 + w), w < n ? 3 - w : -1);
            }
            for (int day = 0; day < 9; day++) {
                same("PLACE", x.count(7), day % n);
                same("DAYS", x.count(6), day);
                same("another's LAW", x.make((day + 1) % n == day % n ? 3 : (day + 1) % n), -2);
                same("the LAW of today's", x.make(day % n) >= 0, true);
                same("who", x.book(day, 1), 3 - day % n);
                same("the day ahead", x.book(day, 0), day);
            }
            x.make(-1);
            same("none is a day, too", x.count(7), 10 % n);
            x.draw(1);
            same("a day DRAWN, too", x.count(7), 11 % n);
            x.seed(99);
            String stands = row(x);
            same("told anew", rota(x, 2), true);
            same("its PLACE is 0", x.count(7), 0);
            same("DAYS, X and THE BOOK stay", x.count(6) * 100 + x.count(8) + x.count(5), 1100 + 9 + 99);
            sameRow(x, stands);
        }
    }

    private static void kindsAtFirst() {
        about("KINDS: 0 STILL (at first): none");
        NineLaws x = town("v9(1=1);m1(1=1)", 0, 0);
        for (int maker = 0; maker < 4; maker++) {
            same("still at first", x.would(maker), 8);
            same("told", x.kind(maker, 4, 1), true);
            same("would", x.would(maker), 1);
            rota(x, maker);
            same("whatever THE ROTA", x.would(maker), 1);
            x.length(maker + 1);
            same("whatever the LENGTH", x.would(maker), 1);
            same("still again", x.kind(maker, 0, 1), true);
            same("would none", x.would(maker), 8);
        }
    }

    private static void want() {
        about("1 WANT: of all that it MAY, and none; of like ones none, then the lowest");
        NineLaws x = town("vk(1=1);m1(1=1)", 0, 1, 1, 0);
        for (int maker = 0; maker < 4; maker++) {
            x.kind(maker, 1, 0);
        }
        same("the lowest of like ones", x.would(0), 1);
        text(x, "vk(1=1);m1(!l=1)");
        same("the lowest that it MAY", x.would(3), 2);
        text(x, "vk(1=1);m1(k=0)");
        same("of like ones none", x.would(1), 8);
        text(x, "vk(1=1);m1(l=9)");
        same("it MAY none", x.would(1), 8);
        text(x, "v0-1(k=0);v0-2(k=1);m1(1=1)");
        same("all are worse than none", x.would(2), 8);
        text(x, "vk-p(l=1);m1(1=1)");
        same("by its own SORT: above 0", x.would(0), 1);
        same("by its own SORT: 0", x.would(1), 8);
        same("by its own SORT: below 0", x.would(2), 8);
        text(x, "vk-2(1=1);m1(1=1)");
        x.length(1);
        x.make(0);
        same("the row is below 0: less so", x.would(0), 1);
        x.make(1);
        same("none is as good", x.would(0), 8);
        NineLaws last = town("vl(1=1);m1(1=1)", 0, 0, 0, 0, 0, 0, 0, 0);
        last.kind(0, 1, 0);
        same("LAW 7", last.would(0), 7);
        text(last, "v7-l(1=1);m1(1=1)");
        same("LAW 0", last.would(0), 0);
    }

    private static void keepKind() {
        about("2 KEEP: if THE ROW is full and v of the oldest there is above 0, and it MAY: the oldest anew");
        for (int length = 1; length <= 4; length++) {
            NineLaws x = town("v1(l=2);m1(1=1)", 0, 0, 0);
            x.kind(0, 2, 0);
            x.length(length);
            for (int n = 0; n < length; n++) {
                same("not full with " + n, x.would(0), 8);
                x.make(n == 0 ? 2 : n % 2);
            }
            same("full: the oldest anew", x.would(0), 2);
            same("another is still", x.would(1), 8);
            text(x, "v1(l=2)");
            same("it MAY not", x.would(0), 8);
            text(x, "v0(1=1);m1(1=1)");
            same("v is 0", x.would(0), 8);
            text(x, "v0-1(1=1);m1(1=1)");
            same("v is below 0", x.would(0), 8);
            text(x, "v1(i=0&f=1&l=2);m1(l=2)");
            same("v where it stands", x.would(0), 2);
            text(x, "v1(i=1);m1(1=1)");
            same("v of another PLACE is not asked", x.would(0), 8);
            text(x, "v[1-p](1=1);m1(1=1)");
            x.kind(1, 2, 0);
            x.kind(3, 2, 0);
            same("v for it is 1", x.would(0), 2);
            same("v for it is 0", x.would(1), 8);
            same("v for it is below 0", x.would(3), 8);
        }
    }

    private static void push() {
        about("3 PUSH: if THE ROW is full and v of the oldest is below 0: as WANT (the lowest; if there is one)");
        for (int length = 1; length <= 4; length++) {
            NineLaws x = town("v0-1(l=2);m1(1=1)", 0, 0, 0);
            x.kind(0, 3, 0);
            x.length(length);
            for (int n = 0; n < length; n++) {
                same("not full with " + n, x.would(0), 8);
                x.make(n == 0 ? 2 : n % 2);
            }
            same("full: the lowest of like ones", x.would(0), 0);
            text(x, "v0-1(l=2);m1(l>0)");
            same("the lowest that it MAY", x.would(0), 1);
            text(x, "v0-1(l=2);v5(l=1);m1(1=1)");
            same("most WORTH", x.would(0), 1);
            text(x, "v0-1(l=2);v0-9(1=1);m1(l=0)");
            same("not none, though it is worse", x.would(0), 0);
            text(x, "v0-100(1=1);m1(1=1)");
            same("all alike", x.would(0), 0);
            text(x, "v0-1(l=2)");
            same("there is none", x.would(0), 8);
            text(x, "v0(l=2);m1(1=1)");
            same("v is 0", x.would(0), 8);
            text(x, "v1(l=2);m1(1=1)");
            same("v is above 0", x.would(0), 8);
            text(x, "v[p-1](l=2);m1(1=1)");
            x.kind(1, 3, 0);
            same("v for it is below 0", x.would(0), 0);
            same("v for it is 0", x.would(1), 8);
        }
    }

    private static void toldKind() {
        about("4 TOLD: a told LAW, if it MAY and that does not stand; else none");
        NineLaws x = town(FREE, 0, 0, 0, 0, 0, 0, 0, 0);
        x.length(2);
        for (int law = 0; law < 8; law++) {
            same("told", x.kind(2, 4, law), true);
            same("would", x.would(2), law);
            x.make(law);
            same("it stands", x.would(2), 8);
            x.make((law + 2) % 8);
            same("it stands as the oldest", x.would(2), 8);
            x.make((law + 3) % 8);
            same("it fell", x.would(2), law);
        }
        text(x, "m1(!l=7)");
        same("it MAY not", x.would(2), 8);
        same("a ninth is not told", x.kind(2, 4, 8), false);
        same("LAW -1 is not told", x.kind(2, 4, -1), false);
        same("the told one before stays", x.kind(2, 4, 6) && x.would(2) == 6, true);
        NineLaws needy = new NineLaws();
        needy.law(0, 2, 0, 0);
        text(needy, FREE);
        needy.kind(0, 4, 0);
        needy.make(0);
        same("it stands, though it does not HOLD", needy.would(0), 8);
    }

    /** Three MAKERS by KINDS who go round: LAW 0 is made by 0, LAW 1 by 2, and 1 keeps. */
    private static NineLaws rounds() {
        NineLaws x = town("vk-p(1=1);m1(1=1)", 4, 2, 1);
        rota(x, 0, 1, 2);
        x.length(2);
        x.kind(0, 4, 0);
        x.kind(1, 2, 0);
        x.kind(2, 4, 1);
        return x;
    }

    private static void runOfDays() {
        about("RUN: so many DAYS (1 to 60) by KINDS from now on, nothing being done");
        NineLaws x = rounds();
        NineLaws y = rounds();
        x.make(-1);
        y.make(-1);
        int[] sums = new int[2];
        int made = 0;
        for (int day = 1; day <= 60; day++) {
            int law = y.would(y.count(10 + y.count(7)));
            y.make(law == 8 ? -1 : law);
            made += law == 8 ? 0 : 1;
            sums[0] += y.worth(0);
            sums[1] += y.worth(3);
            if (day <= 5 || day >= 59) {
                same("WORTH of " + day + " DAYS to 0", x.run(day, 0), sums[0]);
                same("WORTH of " + day + " DAYS to 3", x.run(day, 3), sums[1]);
                for (int place = 0; place < 4; place++) {
                    same("PLACE " + place, x.run(day, 10 + place), y.at(place));
                }
                same("how many were MADE", x.run(day, 20), made);
            }
        }
        same("none was done", x.count(6) + 10 * x.count(1) + 100 * x.count(8), 1);
        same("61 DAYS", x.run(61, 0), WRONG);
        same("0 DAYS", x.run(0, 20), WRONG);
        NineLaws all = town("v1(1=1);m1(1=1)", 0);
        all.kind(0, 1, 0);
        all.length(4);
        same("PLACE 3 behind 3 DAYS", all.run(3, 13), -1);
        same("PLACE 3 behind 4 DAYS", all.run(4, 13), 0);
        same("MADE on each of 4", all.run(5, 20), 4);
        text(all, "v0-1(1=1);m1(1=1)");
        all.kind(0, 3, 0);
        makeAll(all, 0, 0, 0, 0);
        same("MADE on each of 60", all.run(60, 20), 60);
        same("below 0", all.run(60, 0), -240);
        NineLaws still = new NineLaws();
        same("no LAWS", still.run(60, 0), 0);
        same("an empty row", still.run(60, 10), -1);
        same("none MADE", still.run(60, 20), 0);
    }

    private static void ring() {
        about("MEAN: DAYS ahead of the ring, DAYS of the ring (THE ROW and the ROTA's PLACE come again): a fraction");
        for (int n = 1; n <= 4; n++) {
            NineLaws x = town("v7(1=1);m1(1=1)", 0);
            rota(x, new int[n]);
            same("all still: at once", x.mean(0), 0);
            same("the PLACE comes again", x.mean(1), n);
            same("0 is 0", x.mean(10), 0);
            same("by 1", x.mean(20), 1);
            x.kind(0, 1, 0);
            x.length(4);
            same("four DAYS ahead", x.mean(0), 4);
            same("then none", x.mean(1), n);
            same("a whole number", x.mean(13), 28);
            same("by 1", x.mean(23), 1);
            for (int left = 3; left >= 0; left--) {
                x.make(0);
                same("a DAY less ahead", x.mean(0), left);
            }
        }
        NineLaws x = town("v2(l=0);v0-4(l=1);m1(1=1)", 0, 0);
        rota(x, 0, 1, 2, 3);
        x.length(1);
        x.kind(0, 4, 0);
        x.kind(1, 4, 1);
        same("the first DAY is ahead", x.mean(0), 1);
        same("four in the ring", x.mean(1), 4);
        same("above: 2 and three times -4", x.mean(10), -5);
        same("below", x.mean(20), 2);
        x.make(-1);
        same("from PLACE 1", x.mean(0), 1);
        same("the same ring", x.mean(11), -5);
        makeAll(x, 1, -1, -1);
        same("now in the ring", x.mean(0), 0);
        same("the ring from here", x.mean(12), -5);
        text(x, "v1(l=0);m1(1=1)");
        same("1 of 4", x.mean(10) * 10 + x.mean(20), 14);
        text(x, "v4(l=0);m1(1=1)");
        same("1 of 1", x.mean(10) * 10 + x.mean(20), 11);
        text(x, "v6(l=0);m1(1=1)");
        same("3 of 2", x.mean(10) * 10 + x.mean(20), 32);
        text(x, "v0-6(l=0);m1(1=1)");
        same("-3 of 2", x.mean(13), -3);
        same("2 stays above 0", x.mean(23), 2);
        text(x, "v1+p(l=0);m1(1=1)");
        int[] above = {1, 1, 3, 1};
        int[] below = {4, 2, 4, 1};
        for (int sort = 0; sort < 4; sort++) {
            same("above for " + sort, x.mean(10 + sort), above[sort]);
            same("below for " + sort, x.mean(20 + sort), below[sort]);
        }
    }

    private static void ringOfEach() {
        about("MEAN in each LENGTH, by the last LAWS");
        for (int length = 1; length <= 4; length++) {
            NineLaws x = town("vl*10+i(1=1);m1(!l=y)", 0, 0, 0, 0, 0, 0, 0, 0);
            x.length(length);
            rota(x, 1, 2);
            x.kind(1, 4, 7);
            x.kind(2, 4, 6);
            int rest = length > 1 ? 1 : 0;
            same("ahead", x.mean(0), length > 1 ? 2 : 1);
            same("the ring", x.mean(1), 2);
            same("both stand, or each in turn", x.mean(10) * 10 + x.mean(20),
                    length > 1 ? (60 + 70 + rest) * 10 + 1 : 65 * 10 + 1);
            same("the row behind 60", x.run(60, 10), length > 1 ? 7 : 6);
        }
    }

    private static void longRing() {
        about("MEAN by KINDS for ever: thousands of DAYS");
        NineLaws x = town(FREE, 0, 0, 0, 0, 0, 0, 0, 0);
        x.length(4);
        makeAll(x, 0, 1, 2, 4);
        text(x, "v0-1-l(1=1);m1(l=[o+y*7/3+y]%8)");
        rota(x, 0, 1, 2, 3);
        for (int maker = 0; maker < 4; maker++) {
            x.kind(maker, 3, 0);
        }
        int[] row = {0, 1, 2, 4};
        int days = 0;
        int sum = 0;
        do {
            int law = (row[0] + row[3] * 7 / 3 + row[3]) % 8;
            row = new int[] {row[1], row[2], row[3], law};
            sum -= 4 + row[0] + row[1] + row[2] + row[3];
            days++;
        } while (days % 4 != 0 || row[0] != 0 || row[1] != 1 || row[2] != 2 || row[3] != 4);
        same("so many DAYS", days, 15988);
        same("the ring", x.mean(1), days);
        same("nothing ahead: what falls can be told from what comes", x.mean(0), 0);
        int divisor = BigInteger.valueOf(sum).gcd(BigInteger.valueOf(days)).intValue();
        same("above", x.mean(12), sum / divisor);
        same("below", x.mean(22), days / divisor);
        text(x, "v0-1-l(1=1);m1(l=[o+y*7/3+y]%8&!(o=0&y=0))");
        same("a row on which no LAW can be made comes", x.mean(1), 4);
        same("far ahead", x.mean(0) > 60, true);
    }

    private static void bestDays() {
        about("BEST for a MAKER in so many DAYS (1 to 8); of like ones on the first DAY none, then the lower LAW");
        NineLaws x = town("v1(1=1);m1(1=1)", 0, 0);
        x.length(4);
        int[] sums = {1, 3, 6, 10, 14, 18, 22, 26};
        for (int days = 1; days <= 8; days++) {
            same("WORTH of " + days, x.best(0, days, -1), sums[days - 1]);
            same("the first DAY", x.best(0, days, 0), 0);
            same("the last DAY", x.best(0, days, days - 1), days <= 4 ? 0 : 8);
            same("a DAY too far", x.best(0, days, days), WRONG);
        }
        same("0 DAYS", x.best(0, 0, -1), WRONG);
        same("9 DAYS", x.best(0, 9, -1), WRONG);
        // LAW 0 alone is worth something, and goes the day after: made today or on the third day it gives as much
        NineLaws y = town("v5(l=0);m1(p=0&n=0&l=0);m1(p=1&l=1&o=0)", 0, 0);
        y.length(1);
        rota(y, 0, 1);
        y.kind(1, 4, 1);
        same("none first", y.best(0, 3, 0), 8);
        same("then by KIND none", y.best(0, 3, 1), 8);
        same("then the LAW", y.best(0, 3, 2), 0);
        same("all in all", y.best(0, 3, -1), 5);
        same("at once where only that gives it", y.best(0, 2, 0), 0);
        text(y, "v5(n=1);m1(p=0)");
        same("the lower of like LAWS", y.best(0, 1, 0), 0);
        text(y, "v5(n=1);m1(p=0&l=1)");
        same("the lower that it MAY", y.best(0, 1, 0), 1);
        text(y, "v0-5(n=1);m1(p=0)");
        same("none where all are worse", y.best(0, 8, -1), 0);
        NineLaws z = town("vl-p(1=1);m1(p=l)", 0, 0, 0, 0);
        rota(z, 1, 2, 3);
        z.kind(1, 4, 1);
        z.kind(2, 4, 2);
        z.kind(3, 4, 3);
        z.make(-1);
        z.make(-1);
        same("from the ROTA's last PLACE on", z.best(0, 2, 0), 3);
        same("and from 0", z.best(0, 2, 1), 1);
        same("WORTH to one that never comes on", z.best(0, 2, -1), 3 + 4);
        same("WORTH to 3: LAW 3 is 0 to it, LAW 1 is -2", z.best(3, 2, -1), -2);
        same("none", z.best(3, 2, 0), 8);
        NineLaws no = new NineLaws();
        same("no LAWS", no.best(3, 8, -1), 0);
        same("none", no.best(3, 8, 7), 8);
    }

    private static void allDays() {
        about("ALL LOOK AHEAD: in the end of so many DAYS (1 to 8); of like ones none, then the lowest");
        NineLaws x = town("v1-p(1=1);m1(1=1)", 0, 0);
        x.length(4);
        int[] sums = {1, 3, 6, 10, 14, 18, 22, 26};
        for (int days = 1; days <= 8; days++) {
            for (int sort = 0; sort < 4; sort++) {
                same("WORTH of " + days, x.all(days, sort), sums[days - 1] * (1 - sort));
            }
            same("the first DAY", x.all(days, 10), 0);
            same("the last DAY", x.all(days, 9 + days), days <= 4 ? 0 : 8);
            same("a DAY too far", x.all(days, 10 + days), WRONG);
        }
        for (int length = 1; length <= 4; length++) {
            NineLaws last = town("vl-6(1=1);m1(1=1)", 0, 0, 0, 0, 0, 0, 0, 0);
            last.length(length);
            int due = 0;
            for (int day = 1; day <= 8; day++) {
                due += Math.min(day, length);
                same("LAW 7 each DAY: all", last.all(day, 3), due);
                same("LAW 7 each DAY: best", last.best(0, day, -1), due);
                same("the last DAY: all", last.all(day, 9 + day), day <= length ? 7 : 8);
                same("the last DAY: best", last.best(0, day, day - 1), day <= length ? 7 : 8);
            }
        }
        rota(x, 1);
        same("of like ones none", x.all(8, 10), 8);
        rota(x, 2);
        same("none where all are worse", x.all(8, 17), 8);
        rota(x, 2, 0);
        x.make(-1);
        same("from the ROTA's last PLACE on", x.all(2, 10), 0);
        same("and from 0", x.all(2, 11), 8);
        text(x, "v5(n=1);m1(l=1)");
        same("the lowest that it MAY", x.all(1, 10), 1);
        x.kind(0, 4, 0);
        same("whatever its KIND", x.all(1, 10), 1);
        NineLaws no = new NineLaws();
        same("no LAWS", no.all(8, 3), 0);
        same("none", no.all(8, 17), 8);
    }

    private static void mostAndLeastAhead() {
        about("BEST and ALL LOOK AHEAD by the most and the least that a ROW can be worth (-100 to 100 each)");
        NineLaws x = town("v100(p=1|p=3);v0-100(1=1);m1(1=1)", 0, 0);
        x.length(4);
        rota(x, 0, 2);
        makeAll(x, 0, 1, 0, 1);
        for (int days = 1; days <= 8; days++) {
            for (int sort = 0; sort < 4; sort++) {
                int due = 400 * days * (sort % 2 == 1 ? 1 : -1);
                same("all, SORT " + sort + ", " + days + " DAYS", x.all(days, sort), due);
                same("best, SORT " + sort + ", " + days + " DAYS", x.best(sort, days, -1), due);
                same("run, SORT " + sort + ", " + days + " DAYS", x.run(days, sort), due);
            }
        }
        same("run, most", x.run(60, 3), 24000);
        same("run, least", x.run(60, 0), -24000);
        same("worth, most", x.worth(1), 400);
        same("worth, least", x.worth(2), -400);
    }

    // ---- THE BEST ROW, QUIET, HELD, NUMBER ----

    private static void bestRows() {
        about("THE BEST ROW: of as many different LAWS as LENGTH; of like ones the least (Fewer LAWS than LENGTH: none)");
        for (int length = 1; length <= 4; length++) {
            NineLaws x = new NineLaws();
            x.length(length);
            text(x, "vk(1=1)");
            for (int law = 0; law < length; law++) {
                same(law + " LAWS of " + length, x.bestRow(0, -1), WRONG);
                same("no PLACE", x.bestRow(-1, 0), WRONG);
                x.law(9 - law, 0, 0, 0);
            }
            same("as many as LENGTH", x.bestRow(0, -1), 9 * length - length * (length - 1) / 2);
            for (int place = 0; place < length; place++) {
                same("the least row of like ones", x.bestRow(0, place), place);
            }
            same("a PLACE too far", x.bestRow(0, length), WRONG);
            for (int law = length; law < 8; law++) {
                x.law(9 - law, 0, 0, 0);
            }
            same("of eight", x.bestRow(0, length - 1), length - 1);
            same("to all, together", x.bestRow(-1, -1), 4 * (9 * length - length * (length - 1) / 2));
            text(x, "vl(1=1)");
            same("the last LAWS", x.bestRow(3, 0), 8 - length);
            same("the newest", x.bestRow(3, length - 1), 7);
            text(x, "v0-100(1=1)");
            same("the least WORTH there is", x.bestRow(2, -1), -100 * length);
            same("to all", x.bestRow(-1, -1), -400 * length);
            same("its first", x.bestRow(-1, 0), 0);
            text(x, "v5(s>1);m1(1=1)");
            makeAll(x, 3, 3, 3, 3);
            same("no LAW twice", x.bestRow(1, -1), 0);
            text(x, "v1(f=1&n=r)");
            same("a full row", x.bestRow(1, -1), length);
        }
        NineLaws x = town("v5(i=0&l=p)", 0, 0, 0, 0);
        for (int sort = 0; sort < 4; sort++) {
            same("each SORT its own", x.bestRow(sort, 0), sort);
        }
        same("the next is the least there is", x.bestRow(3, 1), 0);
        same("to all: the least", x.bestRow(-1, 0), 0);
    }

    private static void quietRows() {
        about("QUIET is A ROW on which none of THE ROTA MAY make any LAW");
        NineLaws x = town("m1(p=3&l=1)", 0, 0);
        same("3 is not on THE ROTA", x.quiet(), true);
        rota(x, 0, 1, 2, 3);
        same("the last of four", x.quiet(), false);
        rota(x, 3, 0, 1, 2);
        same("the first of four", x.quiet(), false);
        feedBytes(x, 0, 1, 2, 3);
        x.rota(3);
        same("the fourth byte is not on it", x.quiet(), true);
        rota(x, 3);
        same("alone", x.quiet(), false);
        NineLaws barred = new NineLaws();
        barred.law(0, 0, 3, 0);
        barred.law(0, 0, 0, 0);
        text(barred, FREE);
        same("not yet", barred.quiet(), false);
        barred.make(0);
        same("all are barred", barred.quiet(), true);
    }

    private static void soonest() {
        about("HOW SOON: fewest DAYS (0: it is now); of like ones the least row (none first); -2: never");
        NineLaws x = town("m1(l=n&n<r)", 0, 0, 0, 0);
        for (int length = 1; length <= 4; length++) {
            x.length(length);
            for (int stand = 0; stand <= length; stand++) {
                same("DAYS", x.soon(-1), length - stand);
                same("the first", x.soon(0), stand == length ? -1 : stand);
                same("the last", stand == length || x.soon(length - stand - 1) == length - 1, true);
                same("behind the last", x.soon(length - stand), -1);
                same("far behind", x.soon(2147483647), -1);
                same("ahead of NONE", x.soon(-2), -1);
                x.make(stand);
            }
        }
        for (int length = 4; length >= 1; length--) {
            x.length(length);
            same("from a longer LENGTH to a shorter", x.soon(-1), length);
        }
        NineLaws never = town(FREE, 0);
        same("never", never.soon(-1), -2);
        same("never, a DAY", never.soon(0), -2);
        same("ahead of NONE, too", never.soon(-2), -1);
        same("no LAWS: now", new NineLaws().soon(-1), 0);
        same("no DAY of none", new NineLaws().soon(0), -1);
        NineLaws two = town("m1(n<2);m1(n=2&o=1&l=0&s=0)", 0, 0, 0);
        two.length(2);
        same("the least of many rows", two.soon(0) * 10 + two.soon(1), 0);
    }

    private static void soonByTurns() {
        about("HOW SOON: if on each DAY the MAKER makes what it MAY, or none");
        for (int n = 1; n <= 4; n++) {
            NineLaws y = town("m1(p=0&n=0&l>0)", 0, 0, 0);
            int[] turns = {1, 2, 3, 3};
            turns[n - 1] = 0;
            feedBytes(y, turns);
            y.rota(n);
            same("only the last of " + n + " MAY", y.soon(-1), n);
            for (int day = 0; day < n - 1; day++) {
                same("none first", y.soon(day), 8);
            }
            same("the lowest that it MAY", y.soon(n - 1), 1);
            same("behind the last", y.soon(n), -1);
            for (int day = 1; day < n; day++) {
                y.make(-1);
                same("a DAY less", y.soon(-1), n - day);
            }
            y.length(3);
            y.make(-1);
            same("round from PLACE 0 again", y.soon(-1), n);
        }
    }

    private static void soonFar() {
        about("HOW SOON: behind a wrong one, and of many DAYS");
        NineLaws trap = town("m1(n=0);m1(!o=1)", 0, 0);
        same("by LAW 1", trap.soon(-1) * 10 + trap.soon(0), 11);
        trap.length(1);
        trap.make(0);
        same("LAW 1 strikes it", trap.soon(-1) * 10 + trap.soon(0), 11);
        text(trap, "m1(n=0);m1(!o=1&l=0)");
        same("never, behind a wrong one", trap.soon(-1), -2);
        trap.length(1);
        same("an empty row again", trap.soon(-1), 1);
        trap.make(0);
        same("never again", trap.soon(-1), -2);
        NineLaws far = town("m1(l=7&n<r);m1(n=r&l=o-1)", 0, 0, 0, 0, 0, 0, 0, 0);
        for (int length = 1; length <= 4; length++) {
            far.length(length);
            same("down from LAW 7 to 0", far.soon(-1), 8 * length);
            same("the last is LAW 0", far.soon(8 * length - 1), 0);
            same("the first is LAW 7", far.soon(0), 7);
        }
        text(far, FREE);
        makeAll(far, 0, 1, 2, 4);
        text(far, "m1(l=[o+y*5/3]%8&!(o=6&y=0))");
        int[] row = {0, 1, 2, 4};
        int days = 0;
        while (row[0] != 6 || row[3] != 0) {
            row = new int[] {row[1], row[2], row[3], (row[0] + row[3] * 5 / 3) % 8};
            days++;
        }
        same("one way alone, of hundreds of DAYS", far.soon(-1), days);
        same("the last DAY", far.soon(days - 1), 0);
        same("behind it", far.soon(days), -1);
    }

    private static void longestHeld() {
        about("HELD: for how many DAYS (up to 12) some MAKERS can have two told LAWS stand behind each");
        // 0 makes what throws the oldest out, on one DAY of so many; the friends may make none
        int[] turns = {0, 1, 1, 1};
        int[][] due = {{0, 1, 2}, {0, 2, 4}, {0, 3, 6}, {0, 4, 8}};
        for (int n = 1; n <= 4; n++) {
            for (int behind = 0; behind < 3; behind++) {
                NineLaws x = town(FREE, 0, 0, 0);
                x.length(4);
                for (int i = 0; i < 4; i++) {
                    x.make(i == behind ? 0 : i == behind + 1 ? 1 : 2);
                }
                text(x, "m1(p=0&l=2)");
                feedBytes(x, turns);
                x.rota(n);
                same("thrown out after " + behind + " by one of " + n, x.held(0, 1, 14), due[n - 1][behind]);
                same("as the other way round", x.held(1, 0, 14), due[n - 1][behind]);
                same("never by a friend", x.held(0, 1, 1), 12);
                x.make(-1);
                same("a DAY later", x.held(0, 1, 14), n == 1 ? due[0][behind] : due[n - 1][behind] + n - 1);
            }
        }
        NineLaws x = town(FREE, 0, 0, 0);
        x.length(4);
        makeAll(x, 0, 1);
        text(x, "m1(p=0&l=2)");
        rota(x, 1, 1, 1, 0);
        same("eleven", x.held(0, 1, 14), 11);
        rota(x, 1, 1, 1, 1);
        same("twelve", x.held(0, 1, 14), 12);
        same("no friends, but nobody MAY", x.held(0, 1, 0), 12);
        text(x, FREE);
        same("no friends", x.held(0, 1, 0), 2);
        same("all friends", x.held(0, 1, 15), 12);
        same("one and the same", x.held(1, 1, 0), 3);
        NineLaws unwilling = town("m1(l=1)", 0, 0);
        unwilling.make(1);
        text(unwilling, "m1(p=0&l=0&s=0)");
        same("the others make none, if that is worse for the two", unwilling.held(0, 1, 14), 0);
        same("a friend makes what lacks", unwilling.held(0, 1, 1), 12);
        same("what the friends MAY not they do not make", unwilling.held(0, 1, 0), 0);
        NineLaws last = town(FREE, 0, 0, 0, 0, 0, 0, 0, 0);
        for (int length = 1; length <= 4; length++) {
            last.length(length);
            makeAll(last, 7, 7, 7, 7, 6);
            same("LAW 6, the newest, no friends", last.held(6, 6, 0), length - 1);
            same("LAW 6 and 7", last.held(6, 7, 0), length == 1 ? 0 : length - 2);
            same("LAW 6 and 7 by friends", last.held(7, 6, 15), length == 1 ? 0 : 12);
        }
        same("one that stands not", x.held(2, 2, 0), 0);
        same("one that a friend makes today", x.held(2, 2, 15), 12);
        same("two that would take two DAYS", town(FREE, 0, 0).held(0, 1, 15), 0);
        x.length(1);
        same("two never stand in one", x.held(0, 1, 15), 0);
        same("one does", x.held(0, 0, 15), 12);
    }

    private static void lengths() {
        about("NUMBER: the LENGTH (1 to 4) by which MEAN to a SORT is most; of like ones the least");
        for (int most = 1; most <= 4; most++) {
            NineLaws x = town("v[9-r](r=" + most + "&i=0);m1(1=1)", 0);
            x.kind(0, 4, 0);
            same("LENGTH", x.number(2, 0), most);
            same("above", x.number(2, 1), 9 - most);
            same("below", x.number(2, 2), 1);
            text(x, "v5(r>" + (most - 1) + "&i=0);m1(1=1)");
            same("the least of like ones", x.number(2, 0), most);
            text(x, "v0-5(i=0&!r=" + most + ");m1(1=1)");
            same("0 is above the others", x.number(1, 0), most);
            text(x, "v0-5+[r=0](1=1)");
            same("a FAULT changes nothing", x.number(1, 0), most);
            text(x, "v0-9(i=0);m1(1=1)");
            same("all alike", x.number(1, 0), 1);
            same("below 0", x.number(1, 1), -9);
            text(x, "v0-9(i=0&!r=" + most + ");v0-8(i=0);m1(1=1)");
            same("the least below 0", x.number(0, 0), most);
            same("above", x.number(0, 1), -8);
        }
        NineLaws x = town("v3(l=0&r=1);v2(l=0&r=2);m1(1=1)", 0, 0);
        rota(x, 0, 1);
        x.kind(0, 4, 0);
        x.kind(1, 4, 1);
        same("3 on one DAY of 2, or 2 on both", x.number(0, 0), 2);
        text(x, "v4(l=0&r=1);v2(l=0&r=2);m1(1=1)");
        same("4 on one DAY of 2 is like 2 on both", x.number(0, 0), 1);
        same("2 of 1", x.number(0, 1) * 10 + x.number(0, 2), 21);
        text(x, "v5(l=0&r=1);v2(l=0&r=2);m1(1=1)");
        same("5 on one DAY of 2", x.number(0, 0), 1);
        same("5 of 2", x.number(0, 1) * 10 + x.number(0, 2), 52);
        NineLaws first = new NineLaws();
        first.law(0, 0, 3, 0);
        first.law(0, 0, 3, 0);
        text(first, "v5(l=0);v1(l=1);m1(1=1)");
        rota(first, 0, 1);
        first.kind(0, 4, 0);
        first.kind(1, 4, 1);
        same("the first one bars all: it is PLACE 0's", first.number(0, 1), 5);
        first.make(-1);
        same("whatever the PLACE is now", first.number(0, 1), 5);
        same("MEAN goes from the PLACE now", first.mean(10), 1);
        first.make(1);
        same("whatever stands now", first.number(0, 1), 5);
        same("MEAN goes from THE ROW now", first.mean(10), 1);
        x.make(-1);
        same("from PLACE 0, not from now", x.number(0, 1), 5);
        NineLaws standing = town("v9(1=1);m1(1=1)", 0);
        makeAll(standing, 0, 0, 0);
        same("what stands now is of no account", standing.number(0, 1), 0);
        same("but is for MEAN", standing.mean(10), 27);
        fractions();
        same("nothing is done", x.count(7) * 10 + x.count(2), 13);
        same("no LAWS", new NineLaws().number(3, 0), 1);
        same("0 of 1", new NineLaws().number(3, 1) * 10 + new NineLaws().number(3, 2), 1);
    }

    private static void fractions() {
        about("NUMBER: MEANS are fractions, held against each other as such");
        NineLaws three = town("v3(l=0&r=1);v2(l=0&r=2);m1(1=1)", 0, 0, 0);
        rota(three, 0, 1, 2);
        three.kind(0, 4, 0);
        three.kind(1, 4, 1);
        three.kind(2, 4, 2);
        same("3 of 3 is below 4 of 3", three.number(0, 0), 2);
        same("4 of 3", three.number(0, 1) * 10 + three.number(0, 2), 43);
        // LENGTH 1: 0 1 1 2 and round again on four DAYS; else 0 stays, and two DAYS are a ring
        NineLaws rings = town("v0-1(1=1);m1(l=[y+1]%3)", 0, 0, 0);
        rota(rings, 0, 1);
        rings.kind(0, 4, 0);
        rings.kind(1, 3, 0);
        same("-4 of 4 is like -2 of 2", rings.number(0, 0), 1);
        same("-1 of 1", rings.number(0, 1) * 10 + rings.number(0, 2), -9);
        text(rings, "v0-1(p=1);vr(r<3);m1(l=[y+1]%3)");
        same("4 of 4 is below 4 of 2", rings.number(0, 0), 2);
        text(rings, "v0-1(p=1);v3(r=1);v4(r=2);m1(l=[y+1]%3)");
        same("12 of 4 is below 8 of 2", rings.number(0, 0), 2);
    }

    // ---- DEEDS, days DRAWN, THE BOOK, KEPT ----

    private static void deeds() {
        about("DEEDS 0 to 7: LAWS by which each is unlawful (bits): LAWFUL, if none of these HOLDS now");
        NineLaws x = town(FREE, 0, 0, 0, 0, 0, 0, 0, 0);
        for (int i = 0; i < 8; i++) {
            same("nothing told", x.lawful(i), 1);
            same("told", x.deed(i, 1 << i), true);
        }
        x.length(4);
        for (int law = 0; law < 8; law++) {
            x.make(law);
            for (int i = 0; i < 8; i++) {
                same("deed " + i + " when " + law + " is the newest", x.lawful(i), i <= law && i > law - 4 ? 0 : 1);
            }
        }
        NineLaws later = town(FREE, 0);
        same("LAWS that come later", later.deed(2, 254), true);
        later.make(0);
        same("0 is none of them", later.lawful(2), 1);
        later.law(0, 0, 0, 0);
        later.make(1);
        same("1 has come", later.lawful(2), 0);
        same("all LAWS", x.deed(7, 255), true);
        same("some hold", x.lawful(7), 0);
        same("no LAWS", x.deed(7, 0), true);
        same("none of none", x.lawful(7), 1);
        same("255 of an empty row", x.deed(0, 255) && x.length(4), true);
        same("none holds", x.lawful(0), 1);
    }

    private static void fitting() {
        about("FITS: of all ROWS of LENGTH LAWS (any, also like ones)");
        int[] powers = {1, 8, 64, 512, 4096};
        for (int length = 1; length <= 4; length++) {
            NineLaws x = town(FREE, 0, 0, 0, 0, 0, 0, 0, 0);
            x.length(length);
            same("all rows", x.fits(0, 0), powers[length]);
            same("in all of these none", x.fits(0, 1), 0);
            same("in none of these none", x.fits(0, 2), 0);
            x.deed(7, 127);
            same("7 alone", fits(x, 0, 7, 1), 1);
            same("stands in all", fits(x, 1, 7, 1), 128);
            same("the others in none", fits(x, 2, 7, 1), 127);
            same("not 7 alone", fits(x, 0, 7, 0), powers[length] - 1);
            x.deed(0, 128);
            same("neither", fits(x, 0, 7, 1, 0, 1), 0);
            same("none fits: in all", fits(x, 1, 7, 1, 0, 1), 0);
            same("none fits: in none", fits(x, 2, 7, 1, 0, 1), 0);
            same("7 does not stand", fits(x, 0, 0, 1), (int) Math.pow(7, length));
            same("in none", fits(x, 2, 0, 1), 128);
            same("in all", fits(x, 1, 0, 1), 0);
            x.make(0);
            same("whatever stands now", fits(x, 0, 7, 1), 1);
        }
        NineLaws x = new NineLaws();
        same("no LAWS", x.fits(0, 0), 0);
        same("in all of none", x.fits(0, 1), 0);
        same("in none of none", x.fits(0, 2), 0);
        x.law(0, 2, 0, 0);
        same("one LAW", x.fits(0, 0), 1);
        same("stands in all", x.fits(0, 1), 1);
        same("in none of LAWS there are", x.fits(0, 2), 0);
        x.deed(0, 1);
        same("it HOLDS in none: LAWFUL", fits(x, 0, 0, 1), 1);
        same("unlawful", fits(x, 0, 0, 0), 0);
        int[] twenty = new int[40];
        for (int i = 0; i < 20; i++) {
            twenty[2 * i] = i == 19 ? 0 : 1;
            twenty[2 * i + 1] = 1;
        }
        same("twenty", fits(x, 0, twenty), 1);
        twenty[39] = 0;
        same("the twentieth does not fit", fits(x, 0, twenty), 0);
        feedBytes(x, 1, 1, 1, 1, 1, 1, 1, 1, 1, 1, 1, 1, 1, 1, 1, 1, 1, 1, 0, 0);
        same("nine of ten", x.fits(9, 0), 1);
        feedBytes(x, 1, 1, 1, 1, 1, 1, 1, 1, 1, 1, 1, 1, 1, 1, 1, 1, 1, 1, 0, 0);
        same("eleven of ten", x.fits(11, 0), -1);
        same("ten of ten", x.fits(10, 0), 0);
    }

    private static void drawn() {
        about("DRAWN: so many DAYS (1 to 100), done: X = (25173 X + 13849) modulo 65536 (1 at first)");
        NineLaws x = town(FREE, 0, 0, 0, 0);
        rota(x, 3, 2);
        int next = 1;
        same("X at first", x.count(5), 1);
        for (int maker = 0; maker < 4; maker++) {
            x.kind(maker, 4, maker);
        }
        x.length(1);
        for (int day = 0; day < 50; day++) {
            int stood = x.at(0);
            next = (int) ((25173L * next + 13849) % 65536);
            int who = next % 4;
            same("MADE unless it stands", x.draw(1), who == stood ? 0 : 1);
            same("X", x.count(5), next);
            same("who", x.at(0), who);
            same("the ROTA goes on", x.count(7), (day + 1) % 2);
        }
        int[] seeds = {0, 1, 2, 3, 32767, 32768, 65534, 65535};
        for (int seed : seeds) {
            same("THE SEED", x.seed(seed), true);
            same("is X, too", x.count(5), seed);
            x.draw(1);
            same("X from " + seed, x.count(5), (int) ((25173L * seed + 13849) % 65536));
        }
        NineLaws y = town(FREE, 0);
        same("100 DAYS", y.draw(100), 0);
        same("are done", y.count(6), 100);
        int last = 1;
        for (int day = 0; day < 100; day++) {
            last = (int) ((25173L * last + 13849) % 65536);
        }
        same("X behind them", y.count(5), last);
        same("101", y.draw(101), -1);
        same("none is done", y.count(6), 100);
        for (int maker = 0; maker < 4; maker++) {
            y.kind(maker, 1, 0);
        }
        text(y, "v0-1(1=1);m1(1=1)");
        y.length(1);
        y.make(0);
        for (int maker = 0; maker < 4; maker++) {
            y.kind(maker, 3, 0);
        }
        same("MADE on each", y.draw(100), 100);
        same("told as far as there is room", y.count(8), 100);
    }

    private static void bookFull() {
        about("THE BOOK: of all MADE (100 at most; then none is told any more)");
        NineLaws x = town(FREE, 0, 0);
        x.length(1);
        x.make(-1);
        for (int i = 0; i < 99; i++) {
            x.make(i % 2);
        }
        same("99", x.count(8), 99);
        same("there is no entry 99", x.book(99, 0), -1);
        same("KEPT", x.keep(), 1);
        x.make(1);
        same("100", x.count(8), 100);
        same("entry 99: the DAY", x.book(99, 0), 100);
        same("which", x.book(99, 2), 1);
        same("which fell", x.book(99, 3), 0);
        same("MADE, but told no more", x.make(0), 1);
        same("still 100", x.count(8), 100);
        same("entry 99 stays", x.book(99, 2), 1);
        same("entry 0 stays", x.book(0, 0), 1);
        same("no entry 100", x.book(100, 0), -1);
        same("DAYS go on", x.count(6), 102);
        same("undone", x.undo(), true);
        same("as long as then", x.count(8), 99);
        same("no entry 99", x.book(99, 0), -1);
        same("entry 98", x.book(98, 0), 99);
        x.make(-1);
        x.make(1);
        same("100 again", x.count(8), 100);
        same("on another DAY", x.book(99, 0), 101);
        same("full: KEPT", x.keep(), 1);
        x.make(0);
        x.undo();
        same("full: undone", x.count(8), 100);
        same("the row, too", x.at(0), 1);
        NineLaws empty = town(FREE, 0);
        same("empty", empty.count(8), 0);
        for (int what = -1; what <= 4; what++) {
            same("no entry 0", empty.book(0, what), -1);
        }
        empty.make(-1);
        same("none is not told", empty.count(8), 0);
        empty.make(0);
        int[] due = {-1, 1, 0, 0, 8, -1};
        for (int what = -1; what <= 4; what++) {
            same("entry 0, what " + what, empty.book(0, what), due[what + 1]);
            same("entry -1", empty.book(-1, what), -1);
            same("entry 1", empty.book(1, what), -1);
        }
    }

    private static void keptAndUndone() {
        about("KEPT: THE ROW, the ROTA's PLACE, DAYS, X, how many THE BOOK has; UNDONE: as they were KEPT last");
        for (int length = 1; length <= 4; length++) {
            for (int stand = 0; stand <= length; stand++) {
                NineLaws x = town(FREE, 0, 0, 0, 0, 0);
                x.length(length);
                rota(x, 0, 1, 2);
                for (int law = 0; law < stand; law++) {
                    x.make(law);
                }
                x.seed(65535);
                String due = row(x);
                same("none was KEPT", x.undo(), false);
                same("how many stand", x.keep(), stand);
                makeAll(x, 4, 4, 4, 4, 4);
                x.draw(5);
                x.seed(0);
                same("undone", x.undo(), true);
                sameRow(x, due);
                same("stand", x.count(1), stand);
                same("PLACE", x.count(7), stand % 3);
                same("DAYS", x.count(6), stand);
                same("X", x.count(5), 65535);
                same("THE BOOK", x.count(8), stand);
                same("its last", x.book(stand - 1, 2), stand - 1);
                same("no more", x.book(stand, 2), -1);
                x.make(3);
                same("again", x.undo(), true);
                sameRow(x, due);
            }
        }
    }

    private static void keptStill() {
        about("UNDONE: none was KEPT, LENGTH or THE ROTA was told since");
        NineLaws twice = town(FREE, 0);
        makeAll(twice, 0, 0);
        same("one that stands twice is two that stand", twice.keep() * 10 + twice.count(1), 22);
        NineLaws x = town(FREE, 0, 0, 0);
        x.keep();
        x.make(1);
        x.keep();
        x.make(2);
        same("undone", x.undo(), true);
        sameRow(x, "1");
        same("as KEPT last, not first", x.undo(), true);
        sameRow(x, "1");
        same("length refused", x.length(5) || x.length(0), false);
        feedBytes(x, 4);
        same("rota refused", x.rota(1) || x.rota(1), false);
        same("still KEPT", x.undo(), true);
        same("the same LENGTH is told", x.length(3), true);
        same("not KEPT any more", x.undo(), false);
        x.keep();
        same("THE ROTA is told", rota(x, 0), true);
        same("not KEPT any more", x.undo(), false);
        same("THE ROW stays", x.keep(), 0);
        x.make(0);
        x.law(1, 0, 0, 0);
        text(x, "vk+3(1=1);m1(1=1)");
        x.kind(0, 4, 3);
        x.deed(0, 1);
        x.feed(0, 0, 0, 0, 0);
        same("all that is told else lets it be KEPT", x.undo(), true);
        same("LAWS stay", x.count(0), 4);
        same("the tape stays", x.count(4), 20);
        same("KINDS stay", x.would(0), 3);
        x.make(0);
        same("the TEXT stays", x.worth(0), 3);
        same("DEEDS stay", x.lawful(0), 0);
    }

    private static NineLaws eighteenMade() {
        NineLaws x = town(FREE, 0, 0, 0);
        rota(x, 1, 3);
        for (int i = 0; i < 18; i++) {
            x.make(i % 3);
        }
        return x;
    }

    private static void checked() {
        about("CHECK of THE BOOK: threes of numbers: right, or the first number that is not so (3 n: some are lacking)");
        NineLaws x = eighteenMade();
        int[] right = new int[54];
        for (int i = 0; i < 18; i++) {
            right[3 * i] = i;
            right[3 * i + 1] = i % 2 == 0 ? 1 : 3;
            right[3 * i + 2] = i % 3;
        }
        int[] off = {1, -1, 1 << 8, 1 << 16, 1 << 24, 1 << 31};
        for (int i = 0; i < 54; i++) {
            int[] wrong = right.clone();
            wrong[i] += off[i % off.length];
            wrong[53] += 1;
            same("number " + i + " is not so", check(x, wrong), i);
            x = i % 20 == 19 ? eighteenMade() : x;
        }
        same("eighteen", check(x, right), -1);
        same("the tape is empty", x.count(4), 0);
        feedNumbers(x, right);
        same("seventeen: one is lacking", x.check(17), 51);
        feedNumbers(x, right);
        same("none told: all are lacking", x.check(0), 0);
        feedNumbers(x, right);
        same("nineteen are not there", x.check(19), -2);
        same("the tape stays", x.count(4), 220);
        same("18 of them are", x.check(18), -1);
        x.make(0);
        feedNumbers(x, right);
        same("the nineteenth is lacking", x.check(18), 54);
        NineLaws few = town(FREE, 0);
        same("an empty book: none", few.check(0), -1);
        same("an empty book: one", check(few, 0, 0, 0), 0);
        few.make(0);
        same("one", check(few, 0, 0, 0), -1);
        same("one and one that is not there", check(few, 0, 0, 0, 1, 0, 0), 3);
        for (int fed = 1; fed <= 11; fed++) {
            NineLaws y = town(FREE, 0);
            for (int i = 0; i < fed; i++) {
                y.feed(0, 0, 0, 0, 0);
            }
            same("one more than " + fed + " fives have", y.check(fed * 5 / 3 + 1), -2);
            same("the tape stays", y.count(4), 20 * fed);
            same("as many as there are", y.check(fed * 5 / 3), 0);
            same("the whole tape is empty", y.count(4), 0);
        }
        int[] far = {19, 357913941, 357913942, 715827883, 1073741824, 2147483647, -2147483648, -357913941, -1};
        for (int n : far) {
            few.feed(0, 0, 0, 0, 0);
            same("n " + n, few.check(n), -2);
            same("one of them is", few.check(1), -1);
        }
    }

    private static void ownMemory() {
        about("All memory is the town's own");
        NineLaws x = rounds();
        NineLaws y = new NineLaws();
        makeAll(x, 0, 1, 2);
        x.seed(9);
        x.deed(0, 7);
        x.keep();
        x.feed(1, 1, 1, 1, 1);
        x.mean(10);
        x.best(0, 8, -1);
        x.soon(-1);
        x.held(0, 1, 15);
        int[] due = {0, 0, 3, 0, 0, 1, 0, 0, 0, -1, 0, -1, -1, -1};
        for (int what = 0; what < due.length; what++) {
            same("count " + what, y.count(what), due[what]);
        }
        same("nothing was KEPT", y.undo(), false);
        same("nothing stands", y.at(0), -1);
        same("still", y.would(0), 8);
        y.law(0, 0, 0, 0);
        text(y, FREE);
        y.make(0);
        same("no DEED was told", y.lawful(0), 1);
        sameRow(x, "12");
        same("the first one's BOOK", x.count(8), 3);
        same("its WORTH", x.worth(0), 3);
    }

    private static void manyCalls() {
        about("An object is used for at most 512 calls");
        NineLaws x = new NineLaws();
        for (int law = 0; law < 8; law++) {
            x.law(law, 0, 0, 0);
        }
        feedText(x, "vk(1=1);m1(1=1)");
        x.text(15);
        for (int i = 10; i < 511; i++) {
            same("call " + i, x.make(i % 8), i < 13 ? 8 : (i - 3) % 8);
        }
        same("call 512", x.count(6), 501);
    }
}
