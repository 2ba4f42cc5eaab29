/** Promises 16 to 21: make, near, gap, assize, just, price. */
final class PansTest {
    private static final int MIN = Integer.MIN_VALUE, MAX = Integer.MAX_VALUE;
    private static final Due d = new Due();

    public static void main(String[] args) {
        make();
        leastPans();
        makeWithMarriages();
        outsideMakes();
        near();
        gap();
        assize();
        just();
        price();
        priceOfMarried();
        refusedPrices();
        d.end();
    }

    private static SwornPounds sworn(int... pounds) {
        SwornPounds x = new SwornPounds();
        for (int p = 0; p < pounds.length; p++) {
            x.person(p, pounds[p], 2 * pounds[p], 0);
        }
        return x;
    }

    private static void dueMade(SwornPounds x, int v, boolean sworn, int sit, int first, int second) {
        d.due("16: make(" + v + ", " + sworn + ", 0)", x.make(v, sworn, 0), sit);
        d.due("16: make(" + v + ", " + sworn + ", 1)", x.make(v, sworn, 1), first);
        d.due("16: make(" + v + ", " + sworn + ", 2)", x.make(v, sworn, 2), second);
    }

    private static void make() {
        SwornPounds x = sworn(1, 3, 9, 27);
        dueMade(x, 1, true, 1, 1, 0);
        dueMade(x, 2, true, 2, 2, 1);
        dueMade(x, 40, true, 4, 15, 0);
        dueMade(x, 14, true, 4, 8, 7);
        dueMade(x, 41, true, -6, -6, -6);
        dueMade(x, 80, false, 4, 15, 0);
        dueMade(x, 1, false, -6, -6, -6);
        dueMade(new SwornPounds(), 1, true, -6, -6, -6);
        Due.sayAnew(x, "^D").done();
        dueMade(x, 49, false, 1, 8, 0);
    }

    private static void leastPans() {
        SwornPounds x = sworn(10, 10, 20, 20, 30);
        dueMade(x, 10, true, 1, 1, 0);
        dueMade(x, 30, true, 1, 16, 0);
        dueMade(x, 40, true, 2, 12, 0);
        x.leave(0);
        x.leave(4);
        // 1 less nobody before 2 less 1; of as few, the lesser first pan
        dueMade(x, 10, true, 1, 2, 0);
        SwornPounds y = sworn(5, 5, 7, 7);
        dueMade(y, 2, true, 2, 4, 1);
    }

    private static void makeWithMarriages() {
        SwornPounds x = sworn(1, 2, 4, 8);
        x.marry(2, 3, true);
        dueMade(x, 4, true, -6, -6, -6);
        dueMade(x, 12, true, 2, 12, 0);
        dueMade(x, 9, true, 4, 12, 3);
        dueMade(x, 15, true, 4, 15, 0);
        x.marry(0, 1, true);
        dueMade(x, 1, true, -6, -6, -6);
        dueMade(x, 3, true, 2, 3, 0);
    }

    private static void outsideMakes() {
        SwornPounds x = sworn(1);
        for (int v : new int[] {0, 1000, -1, MIN, MAX}) {
            d.due("16: outside", x.make(v, true, 0), -2);
            d.due("17: outside", x.near(v, false), -2);
        }
        for (int what : new int[] {-1, 3, MIN, MAX}) {
            d.due("16: outside", x.make(1, true, what), -2);
        }
        d.due("16: v 999", x.make(999, true, 2), -6);
    }

    private static void near() {
        SwornPounds x = sworn(10, 30);
        d.due("17: below", x.near(9, true), 1);
        d.due("17: above", x.near(12, true), 2);
        d.due("17: made", x.near(20, true), 0);
        d.due("17: all", x.near(999, true), 959);
        d.due("17: weighed", x.near(999, false), 919);
        d.due("17: nobody sits", x.near(3, true), 3);
        d.due("17: v 1", x.near(1, true), 1);
        d.due("17: nobody is there", new SwornPounds().near(7, true), 7);
        x.marry(0, 1, true);
        d.due("17: married", x.near(20, true), 20);
        d.due("17: married, both", x.near(21, true), 19);
    }

    private static void gap() {
        d.due("18: nobody", new SwornPounds().gap(true), 1);
        d.due("18: by threes", sworn(1, 3, 9, 27).gap(true), 41);
        d.due("18: weighed", sworn(1, 3, 9, 27).gap(false), 1);
        d.due("18: of more than 999", sworn(1, 3, 9, 27, 81, 200, 200, 200).gap(true), 722);
        SwornPounds x = new SwornPounds();
        int[] weights = {1, 3, 9, 27, 81, 243, 400, 400};
        for (int p = 0; p < 8; p++) {
            x.person(p, 1, weights[p], 0);
        }
        d.due("18: more than 999", x.gap(false), 1165);
        x.marry(6, 7, true);
        d.due("18: married", x.gap(false), 365);
        d.due("18: sworn alike", x.gap(true), 9);
        for (int p = 0; p < 8; p++) {
            x.person(p, 200, 400, 0);
        }
        d.due("18: all at the most", x.gap(false), 1);
    }

    private static void assize() {
        SwornPounds x = new SwornPounds();
        d.due("19: nobody", x.assize(-1), 0);
        d.due("19: the first of nobody", x.assize(0), -6);
        int[] weights = {30, 50, 20, 50, 55};
        for (int p = 0; p < weights.length; p++) {
            x.person(p + 1, 1, weights[p], 0);
        }
        int[] due = {5, 2, 4, 1, 3};
        d.due("19: how many", x.assize(-1), 5);
        for (int i = 0; i < due.length; i++) {
            d.due("19: assize(" + i + ")", x.assize(i), due[i]);
        }
        for (int i : new int[] {5, 8, -2, MIN, MAX}) {
            d.due("19: none", x.assize(i), -6);
        }
        x.person(0, 1, 56, 0);
        d.due("19: the first person", x.assize(0), 0);
        x.leave(0);
        Due.sayAnew(x, "^F").done();
        // 55 with a cold weighs 50
        d.due("19: a cold", x.assize(0), 2);
        d.due("19: a cold, the third", x.assize(2), 5);
    }

    private static void just() {
        SwornPounds x = new SwornPounds();
        d.due("20: nobody", x.just(), 0);
        x.person(0, 1, 50, 0);
        d.due("20: one", x.just(), 1);
        x.person(1, 9, 55, 0);
        d.due("20: two unlike", x.just(), 1);
        x.person(2, 7, 60, 0);
        x.person(3, 7, 60, 0);
        d.due("20: two alike", x.just(), 2);
        x.person(4, 7, 50, 0);
        Due.sayAnew(x, "^B").done();
        d.due("20: three alike by a cold", x.just(), 3);
        for (int p = 0; p < 8; p++) {
            x.person(p, p + 1, 9, 0);
        }
        d.due("20: all", x.just(), 8);
    }

    private static void duePrice(SwornPounds x, int g, int set, int most, int who) {
        d.due("21: price(" + g + ", " + set + ", 0)", x.price(g, set, 0), most);
        d.due("21: price(" + g + ", " + set + ", 1)", x.price(g, set, 1), who);
    }

    private static void price() {
        SwornPounds x = new SwornPounds();
        x.person(0, 10, 12, 0);
        x.person(1, 20, 20, 0);
        x.person(2, 30, 33, 0);
        x.person(3, 30, 32, 0);
        duePrice(x, 11, 0, -6, -6);
        duePrice(x, 12, 0, 10, 1);
        duePrice(x, 20, 0, 20, 2);
        // A and B together weigh 32 and are 30, as D is; A and B are the least as bits
        duePrice(x, 32, 0, 30, 3);
        duePrice(x, 999, 0, 90, 15);
        duePrice(x, 20, 1, 20, 8);
        duePrice(x, 20, 2, 10, 4);
        duePrice(x, 1, 8, -6, -6);
        duePrice(x, 21, 8, 20, 6);
        duePrice(x, 20, 15, -6, -6);
        duePrice(new SwornPounds(), 999, 0, -6, -6);
        Due.sayAnew(x, "^C").done();
        // with the cold C weighs 30
        duePrice(x, 30, 0, 30, 4);
    }

    private static void priceOfMarried() {
        SwornPounds x = new SwornPounds();
        x.person(0, 10, 10, 0);
        x.person(1, 20, 20, 0);
        x.person(2, 5, 5, 0);
        x.marry(0, 1, true);
        duePrice(x, 29, 0, 5, 4);
        duePrice(x, 30, 0, 30, 3);
        duePrice(x, 25, 4, 25, 3);
        d.due("21: one of a marriage", x.price(25, 1, 0), -3);
        d.due("21: the other of it", x.price(25, 6, 1), -3);
        duePrice(x, 25, 3, -6, -6);
        x.person(3, 1, 1, 0);
        duePrice(x, 1, 0, 1, 8);
        x.person(3, 5, 9, 0);
        // as C is, D is sold as no more than him
        duePrice(x, 4, 4, -6, -6);
    }

    private static void refusedPrices() {
        SwornPounds x = sworn(10, 20, 30);
        x.marry(0, 1, true);
        for (int set : new int[] {8, 9, 128, 256, -1, MIN, MAX}) {
            d.due("21: unknown", x.price(10, set, 0), -1);
            d.due("21: unknown comes first", x.price(0, set, 7), -1);
        }
        for (int g : new int[] {0, 1000, -1, MIN, MAX}) {
            d.due("21: outside", x.price(g, 0, 0), -2);
            d.due("21: outside comes before the state", x.price(g, 1, 0), -2);
        }
        for (int what : new int[] {-1, 2, MIN, MAX}) {
            d.due("21: outside", x.price(10, 0, what), -2);
        }
    }
}
