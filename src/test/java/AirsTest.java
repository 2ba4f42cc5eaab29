/** Promises 22 to 31: seen, forget, airs, air, cross, chance, year, image, restore, told. */
final class AirsTest {
    private static final int MIN = Integer.MIN_VALUE, MAX = Integer.MAX_VALUE;
    private static final Due d = new Due();

    public static void main(String[] args) {
        seen();
        refusedSights();
        forget();
        airs();
        airsOfWhoIsNoMore();
        air();
        cross();
        noCross();
        heavier();
        mean();
        refusedChances();
        year();
        yearOfMarriedAndAbsent();
        image();
        told();
        d.end();
    }

    private static SwornPounds sworn(int... pounds) {
        SwornPounds x = new SwornPounds();
        for (int p = 0; p < pounds.length; p++) {
            x.person(p, pounds[p], 2 * pounds[p], 0);
        }
        return x;
    }

    private static void seen() {
        SwornPounds x = sworn(10, 20, 30);
        x.marry(0, 1, true);
        d.due("22: one marriage is no hindrance", x.seen(1, 4, 0), 1);
        for (int n = 2; n <= 8; n++) {
            d.due("22: one more", x.seen(3, 4, 1), n);
        }
        d.due("22: full", x.seen(3, 4, 1), -4);
        d.due("22: full, outside", x.seen(3, 4, 3), -2);
        d.due("22: full, unknown", x.seen(3, 8, 3), -1);
        d.due("22: told(5)", x.told(5), 8);
    }

    private static void refusedSights() {
        SwornPounds x = sworn(10, 20, 30);
        for (int set : new int[] {0, 8, 12, 128, 256, -1, MIN, MAX}) {
            d.due("22: unknown first", x.seen(set, 1, 0), -1);
            d.due("22: unknown second", x.seen(1, set, 0), -1);
        }
        d.due("22: one on both", x.seen(3, 6, 0), -1);
        d.due("22: the same", x.seen(1, 1, 1), -1);
        d.due("22: unknown comes first", x.seen(1, 1, 3), -1);
        for (int how : new int[] {-1, 3, MIN, MAX}) {
            d.due("22: outside", x.seen(1, 2, how), -2);
        }
        d.due("22: refused, none", x.told(5), 0);
    }

    private static void forget() {
        SwornPounds x = sworn(10, 20, 30);
        d.due("23: none", x.forget(), 0);
        x.seen(1, 2, 2);
        x.seen(2, 1, 2);
        d.due("24: both can not be", x.airs(0), 0);
        d.due("23: two", x.forget(), 2);
        d.due("23: gone", x.told(5), 0);
        d.due("24: all fits again", x.airs(0), 55);
        for (int n = 1; n <= 8; n++) {
            x.seen(2, 1, 2);
        }
        x.forget();
        x.seen(2, 4, 0);
        d.due("24: an old sight counts no more", x.airs(0), 55);
    }

    private static void airs() {
        d.due("24: nobody is there", new SwornPounds().airs(0), 1);
        d.due("24: nobody at all", new SwornPounds().airs(1), 0);
        d.due("24: sworn to 1", sworn(1).airs(0), 10);
        d.due("24: sworn to 9", sworn(9).airs(0), 18);
        d.due("24: sworn to 10", sworn(10).airs(0), 19);
        d.due("24: eight", sworn(10, 10, 10, 10, 10, 10, 10, 10).airs(0), 145);
        d.due("24: eight, who", sworn(10, 10, 10, 10, 10, 10, 10, 10).airs(1), 255);
        SwornPounds x = sworn(10, 10, 25);
        d.due("24: seen(3, 4, 1)", x.seen(3, 4, 1), 1);
        // A or B is 5 more, or C 5 less
        d.due("24: three worlds", x.airs(0), 3);
        d.due("24: all are in some", x.airs(1), 7);
        x.seen(1, 2, 2);
        d.due("24: A it is", x.airs(0), 1);
        d.due("24: A alone", x.airs(1), 1);
        x.seen(1, 4, 2);
        d.due("24: that can not be", x.airs(0), 0);
        d.due("24: nobody then", x.airs(1), 0);
        SwornPounds y = sworn(10, 20);
        y.seen(1, 2, 0);
        // not heavier, nor alike: A up to 9 more, B up to 9 less, and all else
        d.due("24: lighter", y.airs(0), 37);
        for (int what : new int[] {-1, 2, MIN, MAX}) {
            d.due("24: outside", y.airs(what), -2);
        }
    }

    private static void airsOfWhoIsNoMore() {
        SwornPounds x = sworn(10, 20, 15);
        x.seen(3, 4, 2);
        x.leave(1);
        // A alone is heavier than C with 6 more at least, or C with 6 less at least
        d.due("24: without B", x.airs(0), 8);
        d.due("24: A or C", x.airs(1), 5);
        d.due("25: C", x.air(2), 91);
        d.due("25: A", x.air(0), 106);
        d.due("25: B", x.air(1), -1);
        x.person(1, 20, 20, 0);
        d.due("24: with B again", x.airs(0), 55);
        x.person(2, 40, 20, 0);
        // as C is sworn to 40 now, A and B come above with 11 more, or C with as much less
        d.due("24: C anew", x.airs(0), 0);
    }

    private static void air() {
        SwornPounds x = sworn(10, 10, 25);
        d.due("25: the least", x.air(0), 91);
        d.due("25: sworn to 1", sworn(1).air(0), 101);
        d.due("25: sworn to 2", sworn(2).air(0), 99);
        x.seen(3, 4, 1);
        d.due("25: A", x.air(0), 105);
        d.due("25: C", x.air(2), 95);
        x.seen(1, 2, 2);
        d.due("25: B is as sworn", x.air(1), -6);
        x.seen(1, 2, 0);
        d.due("25: nothing fits", x.air(0), -6);
        for (int p : new int[] {-1, 3, 7, 8, MIN, MAX}) {
            d.due("25: unknown", x.air(p), -1);
        }
    }

    private static void cross() {
        SwornPounds x = sworn(10, 10, 10);
        // A against B: 9 worlds of each either way, and 19 in which both are as sworn
        d.due("26: the first such", x.cross(0), 1);
        d.due("26: 19 alike at the most", x.cross(1), 19);
        SwornPounds y = sworn(10, 50, 12, 13);
        // 73 worlds: 12 is as heavy as 13 in 2 of them, heavier in 16; 10 against 12 leaves 57
        d.due("26: 12 against 13", y.cross(0), 23);
        d.due("26: left", y.cross(1), 55);
        x.leave(0);
        d.due("26: who is there", x.cross(0), 12);
        d.due("26: the two", x.cross(1), 18);
        for (int what : new int[] {-1, 2, MIN, MAX}) {
            d.due("26: outside", x.cross(what), -2);
        }
    }

    private static void noCross() {
        SwornPounds x = new SwornPounds();
        d.due("26: nobody", x.cross(0), -6);
        d.due("26: outside comes first", x.cross(2), -2);
        x.person(3, 10, 10, 0);
        d.due("26: one", x.cross(0), -6);
        d.due("26: one, how many", x.cross(1), -6);
        x.person(6, 10, 10, 0);
        d.due("26: two", x.cross(0), 36);
        d.due("26: two, how many", x.cross(1), 18);
        x.seen(8, 64, 0);
        d.due("26: one sight", x.cross(1), 18);
        x.seen(8, 64, 1);
        d.due("26: nothing fits", x.cross(0), -6);
        d.due("26: nothing fits, how many", x.cross(1), -6);
    }

    private static void dueChance(SwornPounds x, int first, int second, int t, int k, int what, long upper, long lower) {
        String call = "27: chance(" + first + ", " + second + ", " + t + ", " + k + ", " + what + ", ";
        d.due(call + "0)", x.chance(first, second, t, k, what, 0), upper);
        d.due(call + "1)", x.chance(first, second, t, k, what, 1), lower);
    }

    private static SwornPounds weighing(int... pounds) {
        SwornPounds x = new SwornPounds();
        for (int p = 0; p < pounds.length; p++) {
            x.person(p, 1, pounds[p], 0);
        }
        return x;
    }

    private static void heavier() {
        SwornPounds x = weighing(10, 10, 12);
        dueChance(x, 1, 2, 0, 5, 0, 0, 1);
        dueChance(x, 1, 2, 10, 5, 0, 0, 1);
        dueChance(x, 4, 2, 0, 5, 0, 1, 1);
        dueChance(x, 1, 2, 5, 5, 0, 1, 4);
        dueChance(x, 1, 2, 3, 5, 0, 21, 100);
        dueChance(x, 1, 4, 3, 2, 0, 0, 1);
        dueChance(x, 1, 4, 3, 3, 0, 21, 100);
        dueChance(x, 4, 1, 3, 2, 0, 79, 100);
        // 22 against 10: not if B alone is 12 more, 7/10 times 7/10 times 3/10
        dueChance(x, 5, 2, 3, 12, 0, 853, 1000);
        Due.sayAnew(x, "^A^C").done();
        dueChance(x, 4, 1, 0, 1, 0, 1, 1);
        dueChance(x, 2, 1, 0, 1, 0, 0, 1);
        SwornPounds y = weighing(1, 1, 1, 1, 1, 1, 1, 1);
        // four against four: 5 or more of 8 halves, 56 + 28 + 8 + 1 ways of 256
        dueChance(y, 15, 240, 5, 1, 0, 93, 256);
        // not when the last one alone is more: 1/10 times (9/10) to the seventh
        dueChance(y, 127, 128, 1, 50, 0, 95217031, 100000000);
    }

    private static void mean() {
        SwornPounds x = weighing(10, 10, 12, 400);
        dueChance(x, 1, 2, 7, 5, 1, 0, 1);
        dueChance(x, 1, 4, 7, 5, 1, -2, 1);
        dueChance(x, 3, 4, 3, 1, 1, 83, 10);
        dueChance(x, 4, 3, 3, 1, 1, -83, 10);
        dueChance(x, 3, 4, 5, 1, 1, 17, 2);
        dueChance(x, 4, 3, 5, 1, 1, -17, 2);
        dueChance(x, 3, 4, 4, 1, 1, 42, 5);
        dueChance(x, 4, 3, 4, 1, 1, -42, 5);
        dueChance(x, 3, 4, 10, 50, 1, 58, 1);
        dueChance(x, 8, 1, 10, 50, 1, 390, 1);
        Due.sayAnew(x, "^D").done();
        dueChance(x, 8, 1, 0, 50, 1, 390, 1);
    }

    private static void refusedChances() {
        SwornPounds x = weighing(10, 10, 12);
        long unknown = -1000000000000000001L;
        long outside = -1000000000000000002L;
        for (int set : new int[] {0, 8, 256, -1, MIN, MAX}) {
            d.due("27: unknown", x.chance(set, 1, 5, 5, 0, 0), unknown);
            d.due("27: unknown", x.chance(1, set, 5, 5, 1, 1), unknown);
        }
        d.due("27: one on both", x.chance(3, 2, 5, 5, 0, 0), unknown);
        d.due("27: unknown comes first", x.chance(3, 2, 11, 51, 2, 2), unknown);
        for (int wrong : new int[] {-1, 51, MIN, MAX}) {
            d.due("27: t", x.chance(1, 2, wrong, 5, 0, 0), outside);
            d.due("27: k", x.chance(1, 2, 5, wrong, 0, 0), outside);
            d.due("27: what", x.chance(1, 2, 5, 5, wrong, 0), outside);
            d.due("27: part", x.chance(1, 2, 5, 5, 0, wrong), outside);
        }
        d.due("27: t 11", x.chance(1, 2, 11, 5, 0, 0), outside);
        d.due("27: k 0", x.chance(1, 2, 5, 0, 0, 0), outside);
        d.due("27: what 2", x.chance(1, 2, 5, 5, 2, 0), outside);
        d.due("27: part 2", x.chance(1, 2, 5, 5, 0, 2), outside);
    }

    private static void dueYear(SwornPounds x, int seed, int m, int sold, int pounds, int salesOff) {
        String call = "28: year(" + seed + ", " + m + ", ";
        d.due(call + "0)", x.year(seed, m, 0), sold);
        d.due(call + "1)", x.year(seed, m, 1), pounds);
        d.due(call + "2)", x.year(seed, m, 2), salesOff);
    }

    /** From 0 on x is 74 (C), 5624 (A), 28652 (E), 51790 (G), 17641 (B), 12409 (B), 13231 (H), each on a new day; then 9344 (A), on the same day. */
    private static void year() {
        SwornPounds x = new SwornPounds();
        x.person(0, 10, 20, 3);
        x.person(2, 30, 31, 5);
        dueYear(x, 0, 1, 30, 36, 1);
        dueYear(x, 0, 2, 40, 62, 2);
        dueYear(x, 0, 7, 40, 62, 2);
        dueYear(x, 0, 8, 50, 103, 3);
        x.limit(6);
        dueYear(x, 0, 1, 30, 36, 0);
        d.due("28: nothing is done", x.told(11), 20);
        d.due("28: no day is gone", x.told(4), 0);
        Due.sayAnew(x, "^C").done();
        dueYear(x, 0, 1, 30, 33, 0);
        for (int seed : new int[] {-1, 10000, MIN, MAX}) {
            d.due("28: outside", x.year(seed, 1, 0), -2);
        }
        for (int m : new int[] {0, 100, -1, MIN, MAX}) {
            d.due("28: outside", x.year(1, m, 0), -2);
        }
        for (int what : new int[] {-1, 3, MIN, MAX}) {
            d.due("28: outside", x.year(1, 1, what), -2);
        }
        d.due("28: the most", new SwornPounds().year(9999, 99, 0), 0);
    }

    private static void yearOfMarriedAndAbsent() {
        SwornPounds x = new SwornPounds();
        x.person(2, 30, 31, 5);
        x.person(7, 50, 55, -2);
        x.marry(2, 7, true);
        // the day passes for both: 36 and 53 for 80
        dueYear(x, 0, 1, 80, 89, 1);
        dueYear(x, 0, 6, 80, 89, 1);
        // after seven days 66 and 41
        dueYear(x, 0, 7, 160, 196, 2);
        x.leave(2);
        dueYear(x, 0, 6, 0, 0, 0);
        dueYear(x, 0, 7, 50, 41, 1);
    }

    private static void image() {
        SwornPounds x = sworn(10, 20, 30);
        x.person(3, 40, 50, 4);
        x.marry(0, 1, true);
        x.limit(7);
        x.seen(1, 2, 0);
        Due.sayAnew(x, "..^A").done();
        d.due("29: image(1)", x.image(1), 1);
        x.person(0, 1, 1, 9);
        x.leave(3);
        x.marry(0, 1, false);
        x.marry(1, 2, true);
        x.limit(9);
        x.forget();
        x.seen(2, 1, 2);
        x.seen(4, 1, 2);
        Due.sayAnew(x, "...^B").done();
        Due.sayAnew(x, "|A;");
        d.due("30: the other one was not kept", x.restore(0), -3);
        d.due("29: image(0)", x.image(0), 1);
        d.due("30: restore(1)", x.restore(1), 1);
        int[] whats = {0, 1, 2, 3, 4, 5, 10, 11, 12, 13, 23, 33, 40, 41, 42, 43};
        int[] due = {3, 15, 1, 7, 2, 1, 10, 20, 9, 1, 0, -6, 40, 58, 13, -6};
        for (int i = 0; i < whats.length; i++) {
            d.due("30: told(" + whats[i] + ")", x.told(whats[i]), due[i]);
        }
        d.due("30: the sight", x.airs(0), 73);
        x.leave(0);
        d.due("30: again", x.restore(1), 1);
        d.due("30: again, persons", x.told(1), 15);
        d.due("30: the other one", x.restore(0), 1);
        d.due("30: its day", x.told(4), 5);
        d.due("30: its colds", x.told(2), 2);
        d.due("30: its marriage", x.told(23), 2);
        d.due("29: anew", x.image(1), 1);
        x.leave(0);
        d.due("30: restore of the newer one", x.restore(1), 1);
        d.due("30: the newer one", x.told(3), 9);
        for (int k : new int[] {-1, 2, MIN, MAX}) {
            d.due("29: outside", x.image(k), -2);
            d.due("30: outside", x.restore(k), -2);
        }
    }

    private static void told() {
        SwornPounds x = new SwornPounds();
        x.person(1, 11, 12, -3);
        x.person(7, 71, 72, 9);
        x.marry(7, 1, true);
        int[] due = {0, 130, 0, 5, 0, 0};
        for (int what = 0; what < due.length; what++) {
            d.due("31: told(" + what + ")", x.told(what), due[what]);
        }
        int[] first = {11, 12, 6, 7};
        int[] second = {71, 72, 18, 1};
        for (int what = 0; what < 4; what++) {
            d.due("31: of B", x.told(20 + what), first[what]);
            d.due("31: of H", x.told(80 + what), second[what]);
        }
        for (int what : new int[] {-1, -10, 6, 9, 10, 13, 19, 24, 29, 30, 70, 84, 89, 90, 93, 100, MIN, MAX}) {
            d.due("31: outside, " + what, x.told(what), -2);
        }
        Due.sayAnew(x, "^H.").done();
        Due.sayAnew(x, "..");
        d.due("31: signs", x.told(0), 2);
        d.due("31: colds", x.told(2), 128);
        d.due("31: the day", x.told(4), 1);
        d.due("31: weight without the cold", x.told(81), 81);
    }
}
