import java.util.Arrays;

/** The boundaries that 'Terms', part 3, and the promises 16 to 21 name: one method for each sentence. */
final class PansEdgesTest {
    private static final int MIN = Integer.MIN_VALUE, MAX = Integer.MAX_VALUE;
    private static final Due d = new Due();

    public static void main(String[] args) {
        leastAndMost();
        onNone();
        weighOrSworn();
        marriedTogether();
        fewest();
        leastFirstPan();
        leastSecondPan();
        nothingMakes();
        whoIsNoMore();
        nearest();
        nobodySitting();
        lighterIsBelow();
        gapFromOne();
        gapAboveAll();
        assize();
        severalAlike();
        just();
        goodsOfPrice();
        setOfNobody();
        noMoreThanThat();
        soldAsMost();
        leastAsBits();
        marriedAcross();
        nothingAboveNothing();
        refusedPrices();
        d.end();
    }

    /** Each weighs twice what he is sworn to. */
    private static SwornPounds sworn(int... pounds) {
        SwornPounds x = new SwornPounds();
        for (int p = 0; p < pounds.length; p++) {
            x.person(p, pounds[p], 2 * pounds[p], 0);
        }
        return x;
    }

    private static SwornPounds weighing(int... pounds) {
        SwornPounds x = new SwornPounds();
        for (int p = 0; p < pounds.length; p++) {
            x.person(p, 1, pounds[p], 0);
        }
        return x;
    }

    private static void dueMade(SwornPounds x, int v, boolean sworn, int sit, int first, int second) {
        int[] due = {sit, first, second};
        for (int what = 0; what <= 2; what++) {
            d.due("16: make(" + v + ", " + sworn + ", " + what + ")", x.make(v, sworn, what), due[what]);
        }
    }

    private static void dueNotMade(SwornPounds x, int v, boolean sworn) {
        dueMade(x, v, sworn, -6, -6, -6);
    }

    /** "(v 1 to 999)"; "how many (what = 0), the first pan (1), the second (2) ... OUTSIDE." */
    private static void leastAndMost() {
        SwornPounds x = sworn(1, 200, 200, 200, 200, 200);
        dueMade(x, 1, true, 1, 1, 0);
        dueMade(x, 999, true, 6, 62, 1);
        dueMade(x, 400, false, 1, 2, 0);
        SwornPounds y = weighing(400, 400, 199);
        dueMade(y, 999, false, 3, 7, 0);
        for (int v : new int[] {0, 1000, -1, MIN, MAX}) {
            d.due("16: make(" + v + ")", x.make(v, true, 0), -2);
            d.due("17: near(" + v + ")", x.near(v, true), -2);
        }
        for (int what : new int[] {-1, 3, MIN, MAX}) {
            d.due("16: make(1, true, " + what + ")", x.make(1, true, what), -2);
            d.due("16: make that can not be", x.make(5, true, what), -2);
        }
    }

    /** "seats of PERSONS on two pans (some on none)" */
    private static void onNone() {
        SwornPounds x = sworn(7, 100, 190);
        dueMade(x, 7, true, 1, 1, 0);
        dueMade(x, 90, true, 2, 4, 2);
        dueMade(x, 97, true, 3, 5, 2);
        dueMade(x, 297, true, 3, 7, 0);
    }

    /** "WEIGH (or, if told so, are SWORN to)" */
    private static void weighOrSworn() {
        SwornPounds x = sworn(10, 25);
        dueMade(x, 15, true, 2, 2, 1);
        dueNotMade(x, 15, false);
        dueMade(x, 30, false, 2, 2, 1);
        dueNotMade(x, 30, true);
        d.due("17: sworn", x.near(16, true), 1);
        d.due("17: weighed", x.near(16, false), 4);
        Due.sayAnew(x, "^B").done();
        dueMade(x, 25, false, 2, 2, 1);
        dueMade(x, 45, false, 1, 2, 0);
        dueMade(x, 15, true, 2, 2, 1);
    }

    /** "MARRIED ones together" */
    private static void marriedTogether() {
        SwornPounds x = sworn(10, 3, 5);
        dueMade(x, 7, true, 2, 1, 2);
        x.marry(1, 2, true);
        dueNotMade(x, 7, true);
        dueNotMade(x, 5, true);
        dueNotMade(x, 3, true);
        dueNotMade(x, 13, true);
        dueMade(x, 2, true, 3, 1, 6);
        dueMade(x, 8, true, 2, 6, 0);
        dueMade(x, 10, true, 1, 1, 0);
        dueMade(x, 18, true, 3, 7, 0);
        d.due("17: 8 is nearest to 6", x.near(6, true), 2);
        d.due("17: 2 is nearest to 5, and 8", x.near(5, true), 3);
        d.due("18: none makes 1", x.gap(true), 1);
        SwornPounds y = sworn(1, 2, 3);
        y.marry(0, 1, true);
        dueMade(y, 3, true, 1, 4, 0);
        dueMade(y, 6, true, 3, 7, 0);
        dueNotMade(y, 1, true);
        dueNotMade(y, 2, true);
        y.marry(0, 1, false);
        dueMade(y, 1, true, 1, 1, 0);
        d.due("18: not married any more", y.gap(true), 7);
    }

    /** "the fewest who sit" */
    private static void fewest() {
        SwornPounds x = sworn(1, 2, 3, 6, 12);
        dueMade(x, 3, true, 1, 4, 0);
        dueMade(x, 6, true, 1, 8, 0);
        dueMade(x, 9, true, 2, 12, 0);
        dueMade(x, 24, true, 5, 31, 0);
        dueMade(x, 23, true, 4, 30, 0);
        dueMade(x, 22, true, 4, 29, 0);
    }

    /** "(least first pan, then second, of as few, as bits)": the first pan. */
    private static void leastFirstPan() {
        SwornPounds x = sworn(3, 4, 10);
        // C less A is 7 as well
        dueMade(x, 7, true, 2, 3, 0);
        SwornPounds y = sworn(9, 9, 9, 9, 9, 9, 9, 9);
        dueMade(y, 9, true, 1, 1, 0);
        dueMade(y, 72, true, 8, 255, 0);
        dueMade(y, 63, true, 7, 127, 0);
        y.leave(0);
        dueMade(y, 9, true, 1, 2, 0);
        dueMade(y, 27, true, 3, 14, 0);
        SwornPounds z = sworn(50, 20, 13, 7);
        // C and D make 20 as well, but are two
        dueMade(z, 20, true, 1, 2, 0);
        z.leave(1);
        dueMade(z, 20, true, 2, 12, 0);
    }

    /** "(least first pan, then second, of as few, as bits)": the second. */
    private static void leastSecondPan() {
        SwornPounds x = sworn(9, 2, 2);
        dueMade(x, 7, true, 2, 1, 2);
        x.leave(1);
        dueMade(x, 7, true, 2, 1, 4);
        SwornPounds y = sworn(2, 1, 2, 1, 9);
        // the second pan's sum is 3: A and B, A and D, B and C, or C and D
        dueMade(y, 6, true, 3, 16, 3);
        dueMade(y, 8, true, 2, 16, 2);
        y.leave(1);
        dueMade(y, 6, true, 3, 16, 9);
    }

    /** "NONE" */
    private static void nothingMakes() {
        dueNotMade(new SwornPounds(), 1, true);
        dueNotMade(new SwornPounds(), 999, false);
        SwornPounds x = sworn(5, 10);
        for (int v : new int[] {1, 4, 6, 9, 11, 14, 16, 999}) {
            dueNotMade(x, v, true);
        }
    }

    /** Who is no more sits nowhere. */
    private static void whoIsNoMore() {
        SwornPounds x = sworn(5, 30);
        x.leave(1);
        dueNotMade(x, 30, true);
        dueNotMade(x, 25, true);
        d.due("17: near", x.near(30, true), 25);
        d.due("18: gap", x.gap(true), 1);
        d.due("19: assize", x.assize(0), 0);
        d.due("19: no second", x.assize(1), -6);
        d.due("20: just", x.just(), 1);
        d.due("21: price", x.price(999, 0, 0), 5);
    }

    /** "NEAR: the least difference to v that any seats have" */
    private static void nearest() {
        SwornPounds x = sworn(10, 30);
        int[][] rows = {{1, 1}, {5, 5}, {6, 4}, {9, 1}, {10, 0}, {11, 1}, {15, 5}, {16, 4}, {25, 5}, {35, 5}, {40, 0}, {41, 1}, {999, 959}};
        for (int[] row : rows) {
            d.due("17: near(" + row[0] + ")", x.near(row[0], true), row[1]);
        }
        SwornPounds y = weighing(400, 400, 199);
        d.due("17: near(999), made", y.near(999, false), 0);
        y.person(2, 1, 201, 0);
        d.due("17: near(999), above it", y.near(999, false), 2);
    }

    /** "(nobody sitting, too ...)" */
    private static void nobodySitting() {
        for (int v : new int[] {1, 2, 500, 999}) {
            d.due("17: of nobody, near(" + v + ")", new SwornPounds().near(v, true), v);
        }
        SwornPounds x = sworn(100);
        d.due("17: nobody is nearer than A", x.near(49, true), 49);
        d.due("17: nobody is as near as A", x.near(50, true), 50);
        d.due("17: A is nearer than nobody", x.near(51, true), 49);
    }

    /** "(... a first pan that is lighter counts as below 0)": B and C must sit on one pan, and the other is lighter. */
    private static void lighterIsBelow() {
        SwornPounds x = sworn(40, 60, 60);
        x.marry(1, 2, true);
        // 40, 80, 120 and 160 can be made, and these below 0
        d.due("17: near(1)", x.near(1, true), 1);
        d.due("17: near(19)", x.near(19, true), 19);
        d.due("17: near(79)", x.near(79, true), 1);
        d.due("17: near(999)", x.near(999, true), 839);
    }

    /** "GAP: the least v (1 on) that can not be made." */
    private static void gapFromOne() {
        d.due("18: nobody", new SwornPounds().gap(true), 1);
        d.due("18: nobody, weighed", new SwornPounds().gap(false), 1);
        d.due("18: 1 alone", sworn(1).gap(true), 2);
        d.due("18: 2 alone", sworn(2).gap(true), 1);
        d.due("18: 1, 1", sworn(1, 1).gap(true), 3);
        d.due("18: 1, 4", sworn(1, 4).gap(true), 2);
        d.due("18: 1, 3", sworn(1, 3).gap(true), 5);
        d.due("18: 2, 3", sworn(2, 3).gap(true), 4);
        d.due("18: weighed by twos", sworn(1, 3).gap(false), 1);
        SwornPounds x = weighing(10, 9);
        d.due("18: 1 and 9 and 10 and 19", x.gap(false), 2);
        Due.sayAnew(x, "^A").done();
        d.due("18: with a cold they are alike", x.gap(false), 1);
    }

    /** "(1 on)": where all up to 999 can be made, it is above. */
    private static void gapAboveAll() {
        d.due("18: 998", weighing(1, 3, 9, 27, 81, 243, 400, 234).gap(false), 999);
        d.due("18: 999", weighing(1, 3, 9, 27, 81, 243, 400, 235).gap(false), 1000);
        d.due("18: 1000", weighing(1, 3, 9, 27, 81, 243, 400, 236).gap(false), 1001);
        d.due("18: 1164", weighing(1, 3, 9, 27, 81, 243, 400, 400).gap(false), 1165);
    }

    /** "how many (i = -1), the i-th; NONE"; "(0 the heaviest ...)" */
    private static void assize() {
        for (int n = 0; n <= 8; n++) {
            int[] weights = {31, 32, 33, 34, 35, 36, 37, 38};
            SwornPounds x = weighing(Arrays.copyOf(weights, n));
            d.due("19: how many", x.assize(-1), n);
            for (int i = 0; i < n; i++) {
                d.due("19: the heaviest first", x.assize(i), n - 1 - i);
            }
            for (int i : new int[] {n, n + 1, 9, -2, MIN, MAX}) {
                d.due("19: none is " + i, x.assize(i), -6);
            }
        }
        int[] falling = {38, 37, 36, 35, 34, 33, 32, 31};
        SwornPounds x = weighing(falling);
        for (int i = 0; i < 8; i++) {
            d.due("19: from the first on", x.assize(i), i);
        }
    }

    /** "of several the least" */
    private static void severalAlike() {
        SwornPounds x = weighing(20, 20, 30, 20, 30, 20, 20, 30);
        int[] due = {2, 4, 7, 0, 1, 3, 5, 6};
        for (int i = 0; i < 8; i++) {
            d.due("19: assize(" + i + ")", x.assize(i), due[i]);
        }
        Due.sayAnew(x, "^C").done();
        // C weighs 27 now
        int[] then = {4, 7, 2, 0, 1, 3, 5, 6};
        for (int i = 0; i < 8; i++) {
            d.due("19: by what they weigh, " + i, x.assize(i), then[i]);
        }
    }

    /** "JUST: the most who WEIGH alike."; "(0: nobody is there)" */
    private static void just() {
        d.due("20: nobody", new SwornPounds().just(), 0);
        d.due("20: one", weighing(5).just(), 1);
        d.due("20: two unlike", weighing(5, 6).just(), 1);
        d.due("20: two alike", weighing(5, 5).just(), 2);
        d.due("20: three and four", weighing(5, 6, 5, 6, 6, 5, 6, 7).just(), 4);
        d.due("20: four and three", weighing(5, 6, 5, 6, 6, 5, 5, 7).just(), 4);
        d.due("20: all", weighing(5, 5, 5, 5, 5, 5, 5, 5).just(), 8);
        SwornPounds x = weighing(5, 5, 6);
        x.leave(1);
        d.due("20: who is no more is not like", x.just(), 1);
        x.leave(0);
        x.leave(2);
        d.due("20: nobody more", x.just(), 0);
    }

    private static void duePrice(SwornPounds x, int g, int set, int most, int who) {
        d.due("21: price(" + g + ", " + set + ", 0)", x.price(g, set, 0), most);
        d.due("21: price(" + g + ", " + set + ", 1)", x.price(g, set, 1), who);
    }

    /** "goods of g pounds (1 to 999)"; "how much (what = 0), which (1) ... OUTSIDE: g, what" */
    private static void goodsOfPrice() {
        SwornPounds x = weighing(1, 2, 400, 400, 200);
        duePrice(x, 1, 0, 1, 1);
        duePrice(x, 999, 0, 4, 15);
        duePrice(x, 402, 0, 3, 19);
        for (int g : new int[] {0, 1000, -1, MIN, MAX}) {
            d.due("21: price(" + g + ", 0, 0)", x.price(g, 0, 0), -2);
        }
        for (int what : new int[] {-1, 2, MIN, MAX}) {
            d.due("21: price(10, 0, " + what + ")", x.price(10, 0, what), -2);
        }
    }

    /** "with a set (of nobody, too)"; "(any of all others ...)" */
    private static void setOfNobody() {
        SwornPounds x = sworn(10, 20, 40);
        duePrice(x, 20, 0, 10, 1);
        duePrice(x, 20, 1, 10, 2);
        duePrice(x, 20, 2, -6, -6);
        duePrice(x, 60, 1, 30, 4);
        duePrice(x, 59, 2, 20, 4);
        duePrice(x, 60, 2, 30, 5);
        duePrice(x, 999, 4, -6, -6);
        duePrice(x, 999, 3, 10, 4);
        duePrice(x, 999, 7, -6, -6);
        duePrice(x, 140, 0, 70, 7);
    }

    /** "who WEIGH no more than the goods and the set" */
    private static void noMoreThanThat() {
        SwornPounds x = new SwornPounds();
        x.person(0, 10, 50, 0);
        x.person(1, 30, 70, 0);
        duePrice(x, 49, 0, -6, -6);
        duePrice(x, 50, 0, 10, 1);
        duePrice(x, 69, 0, 10, 1);
        duePrice(x, 70, 0, 30, 2);
        duePrice(x, 119, 0, 30, 2);
        duePrice(x, 120, 0, 40, 3);
        duePrice(x, 19, 1, -6, -6);
        duePrice(x, 20, 1, 20, 2);
        Due.sayAnew(x, "^B").done();
        duePrice(x, 62, 0, 10, 1);
        duePrice(x, 63, 0, 30, 2);
        duePrice(x, 13, 1, 20, 2);
        Due.sayAnew(x, "^B^A").done();
        duePrice(x, 24, 1, -6, -6);
        duePrice(x, 25, 1, 20, 2);
    }

    /** "so that the goods are sold as most (SWORN across less SWORN by them)" */
    private static void soldAsMost() {
        SwornPounds x = new SwornPounds();
        x.person(0, 50, 30, 0);
        x.person(1, 30, 20, 0);
        x.person(2, 25, 10, 0);
        x.person(3, 1, 100, 0);
        duePrice(x, 30, 0, 55, 6);
        duePrice(x, 40, 0, 75, 5);
        duePrice(x, 50, 0, 80, 3);
        duePrice(x, 60, 0, 105, 7);
        duePrice(x, 1, 8, 104, 7);
        duePrice(x, 1, 4, -6, -6);
        duePrice(x, 10, 4, 5, 2);
    }

    /** "who, least as bits" */
    private static void leastAsBits() {
        SwornPounds x = weighing(5, 5, 5, 9);
        duePrice(x, 5, 0, 1, 1);
        duePrice(x, 9, 0, 1, 1);
        duePrice(x, 10, 0, 2, 3);
        duePrice(x, 19, 0, 3, 7);
        SwornPounds y = new SwornPounds();
        y.person(0, 10, 10, 0);
        y.person(1, 20, 20, 0);
        y.person(2, 30, 30, 0);
        duePrice(y, 30, 0, 30, 3);
        y.leave(0);
        duePrice(y, 30, 0, 30, 4);
    }

    /** "(... MARRIED ones together)" */
    private static void marriedAcross() {
        SwornPounds x = new SwornPounds();
        x.person(0, 10, 10, 0);
        x.person(1, 20, 20, 0);
        x.person(2, 5, 5, 0);
        duePrice(x, 20, 0, 20, 2);
        x.marry(1, 0, true);
        duePrice(x, 20, 0, 5, 4);
        duePrice(x, 29, 0, 5, 4);
        duePrice(x, 30, 0, 30, 3);
        duePrice(x, 35, 0, 35, 7);
        duePrice(x, 5, 3, -6, -6);
        duePrice(x, 25, 4, 25, 3);
    }

    /** "NONE: as nothing above 0" */
    private static void nothingAboveNothing() {
        SwornPounds x = weighing(5, 5, 5);
        duePrice(x, 4, 0, -6, -6);
        duePrice(x, 9, 1, 1, 6);
        duePrice(x, 999, 3, -6, -6);
        duePrice(new SwornPounds(), 1, 0, -6, -6);
        duePrice(new SwornPounds(), 999, 0, -6, -6);
        x.person(2, 2, 5, 0);
        // C for A and B is as 0, for A alone as 1
        duePrice(x, 999, 3, -6, -6);
        x.leave(1);
        duePrice(x, 999, 1, 1, 4);
    }

    /** "UNKNOWN: a PERSON of the set that there is not; ... STATE: one of the set is MARRIED to one who is not of it." */
    private static void refusedPrices() {
        SwornPounds x = sworn(10, 20, 30, 40);
        x.marry(0, 3, true);
        for (int set : new int[] {16, 128, 17, 256, 512, -1, MIN, MAX}) {
            d.due("21: price(10, " + set + ", 0)", x.price(10, set, 0), -1);
        }
        for (int set = 0; set < 16; set++) {
            boolean split = (set & 1) != (set >> 3);
            d.due("21: a set of " + set, x.price(999, set, 0) == -3 ? 1 : 0, split ? 1 : 0);
            d.due("21: a set of " + set + ", who", x.price(999, set, 1) == -3 ? 1 : 0, split ? 1 : 0);
        }
    }
}
