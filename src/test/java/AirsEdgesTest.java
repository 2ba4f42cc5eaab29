/** The boundaries that 'Terms', part 4, and the promises 22 to 31 name: one method for each sentence. */
final class AirsEdgesTest {
    private static final int MIN = Integer.MIN_VALUE, MAX = Integer.MAX_VALUE;
    private static final Due d = new Due();

    public static void main(String[] args) {
        eightSights();
        bothNotEmpty();
        nobodyOnBoth();
        lighterAlikeHeavier();
        forget();
        whatTheyAreSwornTo();
        nineMoreOrLess();
        notNought();
        oneAtLeast();
        allSights();
        whoIsNoMore();
        whatOfAirs();
        air();
        crossOfTwo();
        crossOfNone();
        firstSuch();
        fewestAtTheMost();
        tenths();
        poundsMore();
        moreThanHisWeight();
        coldsDoNotMatter();
        heavier();
        mean();
        lowestTerms();
        refusedChances();
        seeds();
        manySales();
        draws();
        dayOfAYear();
        aloneOrMarried();
        offInAYear();
        nothingIsDone();
        images();
        allButThePad();
        notKept();
        figures();
        figuresOfPersons();
        d.end();
    }

    private static SwornPounds sworn(int... pounds) {
        SwornPounds x = new SwornPounds();
        for (int p = 0; p < pounds.length; p++) {
            x.person(p, pounds[p], 300, 0);
        }
        return x;
    }

    private static SwornPounds weighing(int... pounds) {
        SwornPounds x = new SwornPounds();
        for (int p = 0; p < pounds.length; p++) {
            x.person(p, 1, pounds[p], 0);
        }
        return x;
    }

    /** "SIGHTS, 8 at most"; "A SIGHT more: how many. ... FULL." */
    private static void eightSights() {
        SwornPounds x = sworn(10, 20);
        for (int n = 1; n <= 8; n++) {
            d.due("22: one more", x.seen(1, 2, n < 8 ? 0 : 2), n);
        }
        d.due("24: the eighth counts", x.airs(0), 0);
        d.due("22: a ninth", x.seen(1, 2, 0), -4);
        d.due("31: eight", x.told(5), 8);
        d.due("23: eight there were", x.forget(), 8);
        d.due("22: the first again", x.seen(1, 2, 0), 1);
    }

    private static void dueSeen(SwornPounds x, int first, int second, int want) {
        for (int how = 0; how <= 2; how++) {
            d.due("22: seen(" + first + ", " + second + ", " + how + ")", x.seen(first, second, how), want);
        }
        long gone = -1000000000000000000L + want;
        d.due("27: chance, as of seen", x.chance(first, second, 5, 5, 0, 0), gone);
        d.due("27: mean, as of seen", x.chance(first, second, 5, 5, 1, 1), gone);
    }

    /** "(both not empty ...)"; "UNKNOWN: a PERSON that there is not, an empty set" */
    private static void bothNotEmpty() {
        SwornPounds x = sworn(10, 20, 30);
        for (int set : new int[] {0, 8, 9, 128, 256, 257, 65536, -1, -2, MIN, MAX}) {
            dueSeen(x, set, 2, -1);
            dueSeen(x, 2, set, -1);
        }
        dueSeen(x, 0, 0, -1);
        dueSeen(new SwornPounds(), 1, 2, -1);
        x.leave(0);
        dueSeen(x, 1, 2, -1);
        dueSeen(x, 6, 1, -1);
        d.due("31: none of them", x.told(5), 0);
    }

    /** "(... nobody on both)"; "one on both" */
    private static void nobodyOnBoth() {
        SwornPounds x = sworn(10, 20, 30, 40, 50, 60, 70, 80);
        dueSeen(x, 1, 1, -1);
        dueSeen(x, 255, 255, -1);
        dueSeen(x, 3, 2, -1);
        dueSeen(x, 1, 255, -1);
        dueSeen(x, 192, 129, -1);
        d.due("22: all of them", x.seen(15, 240, 0), 1);
        d.due("22: one and all others", x.seen(128, 127, 0), 2);
    }

    /** "the first was lighter (0), as heavy (1), heavier (2)"; "OUTSIDE: 0 to 2" */
    private static void lighterAlikeHeavier() {
        // A is sworn to 10 as B is: he has 9 below B, 1 as heavy, and 9 above; so has B
        int[] due = {18, 1, 18};
        for (int how = 0; how <= 2; how++) {
            SwornPounds x = sworn(10, 10);
            d.due("22: seen(1, 2, " + how + ")", x.seen(1, 2, how), 1);
            d.due("24: how many fit " + how, x.airs(0), due[how]);
        }
        SwornPounds x = sworn(10, 40);
        x.seen(1, 2, 0);
        d.due("24: lighter", x.airs(0), 37);
        x.forget();
        x.seen(2, 1, 2);
        d.due("24: heavier", x.airs(0), 37);
        x.forget();
        x.seen(2, 1, 0);
        d.due("24: never lighter", x.airs(0), 0);
        for (int how : new int[] {-1, 3, MIN, MAX}) {
            d.due("22: seen(1, 2, " + how + ")", x.seen(1, 2, how), -2);
        }
        d.due("31: one", x.told(5), 1);
    }

    /** "SIGHTS go: how many there were." */
    private static void forget() {
        SwornPounds x = sworn(10, 40);
        d.due("23: none", x.forget(), 0);
        x.seen(2, 1, 0);
        d.due("23: one", x.forget(), 1);
        d.due("23: none more", x.forget(), 0);
        d.due("24: all fits", x.airs(0), 37);
        d.due("31: none", x.told(5), 0);
    }

    /** "worlds in which each WEIGHS what he is SWORN to": not what he WEIGHS in fact. */
    private static void whatTheyAreSwornTo() {
        SwornPounds x = new SwornPounds();
        x.person(0, 10, 400, 9);
        x.person(1, 40, 1, -9);
        x.seen(1, 2, 0);
        d.due("24: as sworn", x.airs(0), 37);
        Due.sayAnew(x, "^B.*").done();
        d.due("24: no weight counts", x.airs(0), 37);
        x.person(0, 60, 400, 9);
        d.due("24: sworn anew", x.airs(0), 0);
    }

    /** "(d -9 to 9 ...)" */
    private static void nineMoreOrLess() {
        // B is 9 above A: alike if A has 9 more or B 9 less
        SwornPounds x = sworn(20, 29);
        x.seen(1, 2, 1);
        d.due("24: 9 apart", x.airs(0), 2);
        d.due("24: either", x.airs(1), 3);
        d.due("25: A", x.air(0), 109);
        d.due("25: B", x.air(1), 91);
        SwornPounds y = sworn(20, 30);
        y.seen(1, 2, 1);
        d.due("24: 10 apart", y.airs(0), 0);
        y.forget();
        y.seen(1, 2, 0);
        d.due("24: 10 apart, always lighter", y.airs(0), 37);
        SwornPounds z = sworn(20, 28);
        z.seen(1, 2, 2);
        d.due("24: 8 apart", z.airs(0), 2);
        d.due("25: only 9 more", z.air(0), 109);
        d.due("25: only 9 less", z.air(1), 91);
    }

    /** "(... not 0 ...)"; "or nobody": that world counts once. */
    private static void notNought() {
        d.due("24: nobody is there", new SwornPounds().airs(0), 1);
        d.due("24: nobody is otherwise", new SwornPounds().airs(1), 0);
        d.due("24: one", sworn(100).airs(0), 19);
        d.due("24: two", sworn(100, 100).airs(0), 37);
        d.due("24: eight", sworn(200, 200, 200, 200, 200, 200, 200, 200).airs(0), 145);
        SwornPounds x = sworn(100, 100, 50);
        x.seen(1, 2, 1);
        // as A and B are alike: C is otherwise, or nobody
        d.due("24: as sworn, and 18 of C", x.airs(0), 19);
        d.due("24: C alone", x.airs(1), 4);
        d.due("25: A is as sworn", x.air(0), -6);
    }

    /** "(... SWORN and d together are 1 at least)" */
    private static void oneAtLeast() {
        for (int s = 1; s <= 12; s++) {
            SwornPounds x = sworn(s);
            int less = Math.min(9, s - 1);
            d.due("24: sworn to " + s, x.airs(0), 1 + 9 + less);
            d.due("25: the least of " + s, x.air(0), less == 0 ? 101 : 100 - less);
        }
    }

    /** "by which all SIGHTS are so" */
    private static void allSights() {
        SwornPounds x = sworn(10, 10, 20);
        d.due("24: without sights", x.airs(0), 55);
        x.seen(3, 4, 2);
        // A or B has 1 to 9 more, or C 1 to 9 less
        d.due("24: one", x.airs(0), 27);
        x.seen(1, 2, 1);
        d.due("24: two", x.airs(0), 9);
        d.due("24: C it is", x.airs(1), 4);
        d.due("25: C", x.air(2), 91);
        d.due("25: A", x.air(0), -6);
        x.seen(1, 4, 0);
        d.due("24: three, C is heavier in all", x.airs(0), 9);
        x.seen(4, 1, 0);
        d.due("24: one more that is not so", x.airs(0), 0);
        d.due("24: nobody", x.airs(1), 0);
    }

    /** "(who is no more weighs nothing in them)" */
    private static void whoIsNoMore() {
        SwornPounds x = sworn(10, 15, 30);
        x.seen(3, 4, 0);
        // nobody, A or B with 9 less to 4 more, or C with 4 less to 9 more
        d.due("24: 25 is lighter than 30", x.airs(0), 40);
        x.leave(2);
        d.due("24: not than nothing", x.airs(0), 0);
        d.due("31: the sight stays", x.told(5), 1);
        x.person(2, 30, 30, 0);
        d.due("24: there again", x.airs(0), 40);
        x.leave(0);
        d.due("24: 15 is lighter than 30, without A", x.airs(0), 37);
        d.due("24: he is not otherwise", x.airs(1), 6);
        x.leave(1);
        d.due("24: nothing is lighter than 30", x.airs(0), 19);
        x.leave(2);
        d.due("24: nothing is not lighter than nothing", x.airs(0), 0);
        x.forget();
        x.person(0, 10, 10, 0);
        x.person(1, 10, 10, 0);
        x.seen(1, 2, 1);
        x.leave(0);
        x.leave(1);
        d.due("24: nothing is as heavy as nothing", x.airs(0), 1);
    }

    /** "how many (what = 0), PERSONS (1). OUTSIDE." */
    private static void whatOfAirs() {
        SwornPounds x = sworn(10, 10);
        x.leave(0);
        d.due("24: how many", x.airs(0), 19);
        d.due("24: as bits", x.airs(1), 2);
        for (int what : new int[] {-1, 2, MIN, MAX}) {
            d.due("24: airs(" + what + ")", x.airs(what), -2);
        }
        SwornPounds y = sworn(1, 1, 1, 1, 1, 1, 1, 1);
        d.due("24: all", y.airs(1), 255);
    }

    /** "the least d of a PERSON in these (NONE: he is as SWORN in all)"; "UNKNOWN. (d and 100.)" */
    private static void air() {
        SwornPounds x = sworn(50, 50);
        d.due("25: of all", x.air(0), 91);
        for (int more = -9; more <= 9; more++) {
            SwornPounds y = sworn(50, 50 + more, 1);
            y.seen(1, 2, 1);
            d.due("25: A has " + more, y.air(0), more == 0 ? -6 : 100 + more);
            d.due("25: B has less", y.air(1), more == 0 ? -6 : 100 - more);
            d.due("25: C", y.air(2), more == 0 ? 101 : -6);
        }
        x.seen(1, 2, 2);
        d.due("25: above", x.air(0), 101);
        d.due("25: below", x.air(1), 91);
        x.seen(1, 2, 0);
        d.due("25: in none", x.air(0), -6);
        for (int p : new int[] {-1, 2, 7, 8, 32, MIN, MAX}) {
            d.due("25: air(" + p + ")", x.air(p), -1);
        }
    }

    private static void dueCross(SwornPounds x, int which, int most) {
        d.due("26: cross(0)", x.cross(0), which);
        d.due("26: cross(1)", x.cross(1), most);
    }

    /** "one against one (10 times the lesser and the greater)" */
    private static void crossOfTwo() {
        for (int p = 0; p < 8; p++) {
            for (int q = p + 1; q < 8; q++) {
                SwornPounds x = new SwornPounds();
                x.person(q, 100, 1, 0);
                x.person(p, 100, 1, 0);
                dueCross(x, 10 * p + q, 18);
                x.marry(p, q, true);
                dueCross(x, 10 * p + q, 18);
            }
        }
    }

    /** "NONE: less than two are there, or nothing fits. OUTSIDE." */
    private static void crossOfNone() {
        dueCross(new SwornPounds(), -6, -6);
        dueCross(sworn(10), -6, -6);
        SwornPounds x = sworn(10, 30);
        dueCross(x, 1, 37);
        x.seen(1, 2, 2);
        dueCross(x, -6, -6);
        x.forget();
        x.leave(0);
        dueCross(x, -6, -6);
        for (int what : new int[] {-1, 2, MIN, MAX}) {
            d.due("26: cross(" + what + ")", x.cross(what), -2);
        }
        SwornPounds y = sworn(10, 10);
        y.seen(1, 2, 1);
        dueCross(y, 1, 1);
    }

    /** "the first such" */
    private static void firstSuch() {
        // all pairs part the worlds alike
        SwornPounds x = sworn(10, 10, 10, 10);
        dueCross(x, 1, 55 - 18);
        x.leave(0);
        dueCross(x, 12, 19);
        SwornPounds y = sworn(10, 30, 50, 70);
        // no pair tells anything
        dueCross(y, 1, 73);
        SwornPounds z = sworn(100, 10, 20, 10, 20);
        // B against D and C against E are alike: 18 worlds either way, the others on the level
        dueCross(z, 13, 91 - 36);
    }

    /** "so that, whatever comes, fewest worlds are left at the most" */
    private static void fewestAtTheMost() {
        SwornPounds x = sworn(10, 12, 11);
        // A above B in 14 worlds, level in 2, below in 39; A above C in 16, level in 2, below in 37; B and C as A and C
        dueCross(x, 2, 55 - 8 - 8 - 2);
        x.seen(1, 4, 1);
        // A has 1 more, or C 1 less: no pair parts these two
        d.due("24: two are left", x.airs(0), 2);
        dueCross(x, 1, 2);
        SwornPounds y = sworn(10, 20, 5);
        y.seen(1, 2, 1);
        y.seen(1, 2, 1);
        d.due("24: none is left", y.airs(0), 0);
        SwornPounds z = sworn(10, 12, 5, 14);
        z.seen(1, 2, 1);
        // A has 2 more or B 2 less
        d.due("24: two", z.airs(0), 2);
        dueCross(z, 1, 2);
        z.person(2, 10, 1, 0);
        // A against C parts them: 12 and 10, or 10 and 10
        dueCross(z, 2, 1);
    }

    private static void dueChance(SwornPounds x, int first, int second, int t, int k, int what, long upper, long lower) {
        String call = "27: chance(" + first + ", " + second + ", " + t + ", " + k + ", " + what + ", ";
        d.due(call + "0)", x.chance(first, second, t, k, what, 0), upper);
        d.due(call + "1)", x.chance(first, second, t, k, what, 1), lower);
    }

    /** "with t tenths (0 to 10)" */
    private static void tenths() {
        SwornPounds x = weighing(10, 11, 13);
        dueChance(x, 1, 2, 0, 2, 0, 0, 1);
        dueChance(x, 1, 2, 1, 2, 0, 9, 100);
        dueChance(x, 1, 2, 2, 2, 0, 4, 25);
        dueChance(x, 1, 2, 5, 2, 0, 1, 4);
        dueChance(x, 1, 2, 9, 2, 0, 9, 100);
        dueChance(x, 1, 2, 10, 2, 0, 0, 1);
        dueChance(x, 2, 1, 0, 2, 0, 1, 1);
        dueChance(x, 2, 1, 1, 2, 0, 91, 100);
        dueChance(x, 2, 1, 10, 2, 0, 1, 1);
        dueChance(x, 3, 4, 0, 50, 1, 8, 1);
        dueChance(x, 3, 4, 10, 50, 1, 58, 1);
    }

    /** "k pounds (1 to 50) more" */
    private static void poundsMore() {
        SwornPounds x = weighing(1, 50, 51, 2);
        dueChance(x, 1, 2, 1, 50, 0, 9, 100);
        dueChance(x, 1, 2, 1, 49, 0, 0, 1);
        dueChance(x, 1, 4, 1, 50, 0, 0, 1);
        dueChance(x, 1, 8, 1, 1, 0, 0, 1);
        dueChance(x, 1, 8, 1, 2, 0, 9, 100);
        SwornPounds y = weighing(5, 5);
        dueChance(y, 1, 2, 1, 1, 0, 9, 100);
        dueChance(x, 1, 2, 10, 1, 1, -49, 1);
        dueChance(x, 3, 4, 10, 1, 1, 1, 1);
        dueChance(x, 3, 4, 10, 50, 1, 50, 1);
    }

    /** "more than his WEIGHT, else just that": 400 is no bound here, as no day passes. */
    private static void moreThanHisWeight() {
        SwornPounds x = weighing(400, 400, 400);
        dueChance(x, 1, 2, 5, 50, 0, 1, 4);
        dueChance(x, 3, 4, 10, 50, 1, 450, 1);
        x.person(0, 200, 400, 9);
        x.person(1, 1, 400, -9);
        dueChance(x, 1, 2, 0, 50, 0, 0, 1);
        dueChance(x, 1, 2, 0, 50, 1, 0, 1);
    }

    /** "(COLDS do not matter)" */
    private static void coldsDoNotMatter() {
        SwornPounds x = weighing(100, 95);
        Due.sayAnew(x, "^A").done();
        d.due("12: he weighs less", x.weighs(0), 90);
        dueChance(x, 1, 2, 0, 1, 0, 1, 1);
        dueChance(x, 2, 1, 0, 1, 0, 0, 1);
        dueChance(x, 1, 2, 0, 1, 1, 5, 1);
    }

    /** "that a set is heavier than another one": as heavy is not heavier. */
    private static void heavier() {
        SwornPounds x = weighing(10, 10, 20, 21, 19);
        dueChance(x, 1, 2, 0, 5, 0, 0, 1);
        dueChance(x, 3, 4, 0, 5, 0, 0, 1);
        dueChance(x, 3, 8, 0, 5, 0, 0, 1);
        dueChance(x, 3, 16, 0, 5, 0, 1, 1);
        // 20 and 20: not if both are just that, nor if C is more and one at most of A and B
        dueChance(x, 3, 4, 5, 5, 0, 1, 2);
        dueChance(x, 4, 3, 5, 5, 0, 1, 8);
    }

    /** "the mean of how much heavier the first is (the upper number is below 0, if it is lighter)" */
    private static void mean() {
        SwornPounds x = weighing(10, 10, 12, 1);
        dueChance(x, 1, 2, 5, 50, 1, 0, 1);
        dueChance(x, 1, 4, 5, 50, 1, -2, 1);
        dueChance(x, 4, 1, 5, 50, 1, 2, 1);
        dueChance(x, 8, 3, 1, 1, 1, -191, 10);
        dueChance(x, 3, 8, 1, 1, 1, 191, 10);
        dueChance(x, 8, 3, 5, 1, 1, -39, 2);
        dueChance(x, 8, 7, 4, 3, 1, -167, 5);
        dueChance(x, 11, 4, 1, 45, 1, 18, 1);
        SwornPounds y = weighing(10, 10, 20, 9);
        dueChance(y, 4, 3, 2, 5, 1, -1, 1);
        dueChance(y, 12, 3, 2, 5, 1, 9, 1);
    }

    /** "Fractions are told in lowest terms by part: 0 the upper, 1 the lower number" */
    private static void lowestTerms() {
        SwornPounds x = weighing(5, 5, 5, 5, 5, 5, 5, 5);
        dueChance(x, 1, 2, 2, 1, 0, 4, 25);
        dueChance(x, 1, 2, 4, 1, 0, 6, 25);
        dueChance(x, 1, 2, 5, 1, 0, 1, 4);
        dueChance(x, 3, 4, 5, 5, 0, 7, 8);
        dueChance(x, 15, 240, 5, 1, 0, 93, 256);
        dueChance(x, 240, 15, 5, 1, 0, 93, 256);
        // one against seven: only if he is 31 more, and none of them is
        dueChance(x, 1, 254, 5, 31, 0, 1, 256);
        dueChance(x, 1, 254, 5, 30, 0, 0, 1);
        // not if the eighth alone is more: 9 tenths for each of seven, and 1 tenth
        dueChance(x, 127, 128, 1, 30, 0, 95217031, 100000000);
    }

    /** "UNKNOWN, as of seen(); OUTSIDE: t, k, what, part." */
    private static void refusedChances() {
        SwornPounds x = weighing(10, 10);
        long outside = -1000000000000000002L;
        d.due("27: t -1", x.chance(1, 2, -1, 1, 0, 0), outside);
        d.due("27: t 11", x.chance(1, 2, 11, 1, 0, 0), outside);
        d.due("27: k 0", x.chance(1, 2, 0, 0, 0, 0), outside);
        d.due("27: k 51", x.chance(1, 2, 0, 51, 0, 0), outside);
        d.due("27: what -1", x.chance(1, 2, 0, 1, -1, 0), outside);
        d.due("27: what 2", x.chance(1, 2, 0, 1, 2, 0), outside);
        d.due("27: part -1", x.chance(1, 2, 0, 1, 0, -1), outside);
        d.due("27: part 2", x.chance(1, 2, 0, 1, 0, 2), outside);
        d.due("27: unknown comes first", x.chance(1, 4, 11, 51, 2, 2), -1000000000000000001L);
    }

    private static void dueYear(SwornPounds x, int seed, int m, int sold, int pounds, int salesOff) {
        int[] due = {sold, pounds, salesOff};
        for (int what = 0; what <= 2; what++) {
            d.due("28: year(" + seed + ", " + m + ", " + what + ")", x.year(seed, m, what), due[what]);
        }
    }

    /** Each is sworn to a power of 2, and weighs 300: what is SOLD tells who was across. */
    private static SwornPounds eight() {
        return sworn(1, 2, 4, 8, 16, 32, 64, 128);
    }

    /** "A YEAR by a seed (0 to 9999)"; "pounds SOLD; pounds that they were; sales that were off ...: OUTSIDE" */
    private static void seeds() {
        // 0 becomes 74 (C), 1 becomes 149 (F), 9998 becomes 29017 (B), 9999 becomes 29092 (E)
        dueYear(eight(), 0, 1, 4, 300, 1);
        dueYear(eight(), 1, 1, 32, 300, 1);
        dueYear(eight(), 9998, 1, 2, 300, 1);
        dueYear(eight(), 9999, 1, 16, 300, 1);
        for (int seed : new int[] {-1, 10000, MIN, MAX}) {
            d.due("28: year(" + seed + ", 1, 0)", eight().year(seed, 1, 0), -2);
        }
        for (int what : new int[] {-1, 3, MIN, MAX}) {
            d.due("28: year(1, 1, " + what + ")", eight().year(1, 1, what), -2);
        }
    }

    /** "of m sales (1 to 99)" */
    private static void manySales() {
        SwornPounds x = eight();
        for (int m : new int[] {1, 2, 3, 50, 98, 99}) {
            d.due("28: pounds of " + m, x.year(7, m, 1), 300 * m);
            d.due("28: off of " + m, x.year(7, m, 2), m);
        }
        for (int m : new int[] {0, 100, -1, MIN, MAX}) {
            d.due("28: m " + m, x.year(7, m, 0), -2);
        }
        dueYear(new SwornPounds(), 9999, 99, 0, 0, 0);
    }

    /** "x becomes (75 x and 74) left over by 65537" */
    private static void draws() {
        // 74, 5624, 28652, 51790, 17641, 12409, 13231, 9344: C, A, E, G, B, B, H, A
        int[] who = {4, 1, 16, 64, 2, 2, 128, 1};
        int sold = 0;
        for (int m = 1; m <= who.length; m++) {
            sold += who[m - 1];
            dueYear(eight(), 0, m, sold, 300 * m, m);
        }
    }

    /** "if x by 8 (cut) is odd, a day passes": before the sale, and without one. */
    private static void dayOfAYear() {
        SwornPounds x = new SwornPounds();
        x.person(4, 16, 300, 7);
        // 29092 by 8 is 3636
        dueYear(x, 9999, 1, 16, 300, 1);
        SwornPounds y = new SwornPounds();
        y.person(2, 4, 300, 7);
        // 74 by 8 is 9
        dueYear(y, 0, 1, 4, 307, 1);
        SwornPounds z = new SwornPounds();
        z.person(0, 1, 300, 7);
        // two days until A, then five more, of others who are not there, until A comes without a day
        dueYear(z, 0, 1, 0, 0, 0);
        dueYear(z, 0, 2, 1, 314, 1);
        dueYear(z, 0, 7, 1, 314, 1);
        dueYear(z, 0, 8, 2, 314 + 349, 2);
        z.person(0, 1, 399, 7);
        dueYear(z, 0, 2, 1, 400, 1);
        z.person(0, 1, 3, -9);
        dueYear(z, 0, 2, 1, 1, 0);
    }

    /** "PERSON x left over by 8 is across from goods, if he is there, alone or with whom he is MARRIED to" */
    private static void aloneOrMarried() {
        SwornPounds x = eight();
        x.marry(2, 5, true);
        dueYear(x, 0, 1, 36, 600, 1);
        dueYear(x, 1, 1, 36, 600, 1);
        dueYear(x, 9999, 1, 16, 300, 1);
        x.leave(2);
        dueYear(x, 0, 1, 0, 0, 0);
        dueYear(x, 1, 1, 32, 300, 1);
        x.leave(5);
        dueYear(x, 1, 1, 0, 0, 0);
        dueYear(new SwornPounds(), 0, 99, 0, 0, 0);
        SwornPounds y = weighing(20, 20, 20);
        Due.sayAnew(y, "^C").done();
        dueYear(y, 0, 1, 1, 18, 1);
    }

    /** "sales that were off by more than LIMIT" */
    private static void offInAYear() {
        for (int limit : new int[] {0, 5, 99}) {
            for (int by : new int[] {-limit - 1, -limit, limit, limit + 1}) {
                SwornPounds x = new SwornPounds();
                x.limit(limit);
                x.person(2, 150, 150 + by, 0);
                dueYear(x, 0, 1, 150, 150 + by, Math.abs(by) > limit ? 1 : 0);
            }
        }
    }

    /** "from all as it is"; "Nothing is DONE in fact." */
    private static void nothingIsDone() {
        SwornPounds x = new SwornPounds();
        for (int p = 0; p < 8; p++) {
            x.person(p, 100, 100, p - 4);
        }
        Due.sayAnew(x, ".^B|A;");
        String before = Look.at(x);
        int sold = x.year(5, 99, 0);
        d.due("28: all were there", sold, 9900);
        d.due("28: as before", before.equals(Look.at(x)) ? 1 : 0, 1);
        d.due("28: the same again", x.year(5, 99, 0), sold);
    }

    /** "All but the PAD is kept in an IMAGE (0, 1): 1. OUTSIDE." */
    private static void images() {
        SwornPounds x = sworn(10);
        d.due("29: image(0)", x.image(0), 1);
        x.person(1, 20, 20, 0);
        d.due("29: image(1)", x.image(1), 1);
        x.person(2, 30, 30, 0);
        d.due("30: restore(0)", x.restore(0), 1);
        d.due("30: one", x.told(1), 1);
        d.due("30: restore(1)", x.restore(1), 1);
        d.due("30: two", x.told(1), 3);
        x.leave(0);
        d.due("30: restore(1), again", x.restore(1), 1);
        d.due("30: two, again", x.told(1), 3);
        d.due("29: image(0), anew", x.image(0), 1);
        x.leave(0);
        x.restore(0);
        d.due("30: two, of the newer one", x.told(1), 3);
        for (int k : new int[] {-1, 2, MIN, MAX}) {
            d.due("29: image(" + k + ")", x.image(k), -2);
            d.due("30: restore(" + k + ")", x.restore(k), -2);
        }
    }

    /** A town in which all that an IMAGE keeps is otherwise than at first. */
    private static SwornPounds otherwise() {
        SwornPounds x = new SwornPounds();
        for (int p = 0; p < 8; p++) {
            x.person(p, 20 + p, 30 + p, p - 3);
        }
        x.marry(0, 7, true);
        x.marry(3, 2, true);
        x.limit(77);
        Due.sayAnew(x, "..^B^G").done();
        x.seen(1, 2, 0);
        x.seen(4, 8, 0);
        x.seen(16, 129, 0);
        return x;
    }

    /** "All but the PAD"; "It is as it was when it was kept: 1." */
    private static void allButThePad() {
        SwornPounds x = otherwise();
        x.image(1);
        String kept = Look.at(x);
        for (int p = 0; p < 8; p++) {
            x.person(p, 1, 1, 9);
        }
        x.marry(3, 2, false);
        x.leave(7);
        x.limit(1);
        x.forget();
        x.seen(2, 1, 2);
        Due.sayAnew(x, ".^A*").done();
        d.due("30: restore", x.restore(1), 1);
        d.due("30: as it was", kept.equals(Look.at(x)) ? 1 : 0, 1);
        Due.sayAnew(x, "|B;");
        x.restore(1);
        d.due("30: the pad stays", x.told(0), 3);
        d.due("30: it is judged", x.judge(3), 21);
        Due.sayAnew(x, "?");
        d.due("29: with a fault", x.image(0), 1);
        x.wipe();
        x.restore(0);
        d.due("30: no pad was kept", x.told(0), 0);
        d.due("30: no fault was kept", x.fault(), -6);
    }

    /** "STATE: it was not." */
    private static void notKept() {
        for (int k = 0; k <= 1; k++) {
            SwornPounds x = sworn(10);
            d.due("30: neither was kept", x.restore(k), -3);
            d.due("29: the other one", x.image(1 - k), 1);
            d.due("30: it was not kept", x.restore(k), -3);
            d.due("30: the other one was", x.restore(1 - k), 1);
            d.due("30: it was not kept with that", x.restore(k), -3);
            d.due("31: as it was", x.told(1), 1);
        }
    }

    /** "0 signs, 1 PERSONS (bits), 2 COLDS (bits), 3 LIMIT, 4 the day, 5 SIGHTS ... OUTSIDE." */
    private static void figures() {
        SwornPounds x = otherwise();
        Due.sayAnew(x, "|B?;");
        int[] due = {4, 255, 66, 77, 2, 3};
        for (int what = 0; what <= 5; what++) {
            d.due("31: told(" + what + ")", x.told(what), due[what]);
        }
        for (int what : new int[] {-1, -9, -10, 6, 7, 8, 9, 90, 91, 92, 93, 100, MIN, MIN + 10, MAX}) {
            d.due("31: told(" + what + ")", x.told(what), -2);
        }
    }

    /** "10 times (1 and a PERSON who is there) and 0 SWORN, 1 WEIGHT, 2 DRIFT and 9, 3 to whom he is MARRIED (NONE)" */
    private static void figuresOfPersons() {
        SwornPounds x = otherwise();
        int[] spouses = {7, -6, 3, 2, -6, -6, -6, 0};
        for (int p = 0; p < 8; p++) {
            int[] due = {20 + p, 30 + p + 2 * (p - 3), p - 3 + 9, spouses[p], -2, -2, -2, -2, -2, -2};
            for (int i = 0; i <= 9; i++) {
                d.due("31: told(" + (10 * (1 + p) + i) + ")", x.told(10 * (1 + p) + i), due[i]);
            }
        }
        for (int p = 0; p < 8; p++) {
            x.leave(p);
            for (int i = 0; i <= 4; i++) {
                d.due("31: of who is no more", x.told(10 * (1 + p) + i), -2);
            }
        }
        SwornPounds y = new SwornPounds();
        y.person(0, 1, 1, -9);
        y.person(7, 200, 400, 9);
        d.due("31: the least drift", y.told(12), 0);
        d.due("31: the most drift", y.told(82), 18);
    }
}
