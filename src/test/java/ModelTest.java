/** Runs of calls, each answered by the class and by the model of it: all promises together. */
final class ModelTest {
    /** The document promises 512 calls of an object; one step of a run takes 30 at the most. */
    private static final int RUNS = 800, CALLS = 512, AT_ONCE = 30;
    private static final String[] ACTS = {".", ".", "*", "^", "|", "|", "by|"};

    private final Draws draws;
    private final int run;
    private final Due d;
    private final int crowd;
    private final SwornPounds x = new SwornPounds();
    private final Model m = new Model();
    private int calls = 0;

    private ModelTest(int run, Due d) {
        this.run = run;
        this.d = d;
        this.draws = new Draws(run);
        this.crowd = draws.any(30, 60, 100, 200);
    }

    public static void main(String[] args) {
        Due d = new Due();
        for (int run = 1; run <= RUNS; run++) {
            ModelTest test = new ModelTest(run, d);
            for (int step = 0; step < CALLS && test.calls <= CALLS - AT_ONCE; step++) {
                test.call(test.draws.below(36));
            }
        }
        d.end();
    }

    private void due(String call, long got, long want) {
        calls++;
        d.due("run " + run + ": " + call, got, want);
    }

    private int person() {
        return draws.below(30) == 0 ? draws.any(-1, 8) : draws.below(8);
    }

    private int set() {
        int there = m.told(1);
        return draws.below(12) == 0 ? draws.from(-1, 256) : draws.below(256) & there;
    }

    private int what(int most) {
        return draws.below(30) == 0 ? draws.any(-1, most + 1) : draws.from(0, most);
    }

    private int figure(int low, int high) {
        return draws.below(30) == 0 ? draws.any(low - 1, high + 1) : draws.any(low, high, draws.from(low, high), draws.from(low, high), draws.from(low, high));
    }

    private void call(int kind) {
        if (kind < 12) {
            callPersons(kind);
        } else if (kind < 20) {
            callMarkets(kind);
        } else if (kind < 26) {
            callPans(kind);
        } else {
            callAirs(kind);
        }
    }

    private void callPersons(int kind) {
        int p = person(), q = person(), n;
        boolean is = draws.below(3) > 0;
        switch (kind) {
            case 0, 1, 2 -> {
                int sworn = draws.below(20) == 0 ? figure(1, 200) : draws.from(1, crowd);
                int weight = draws.below(20) == 0 ? figure(1, 400) : Math.max(1, sworn + draws.from(-8, 8));
                int drift = figure(-9, 9);
                due("person(" + p + ", " + sworn + ", " + weight + ", " + drift + ")", x.person(p, sworn, weight, drift), m.person(p, sworn, weight, drift));
            }
            case 3 -> {
                if (draws.below(3) == 0) {
                    due("leave(" + p + ")", x.leave(p), m.leave(p));
                }
            }
            case 4 -> due("marry(" + p + ", " + q + ", " + is + ")", x.marry(p, q, is), m.marry(p, q, is));
            case 5 -> due("limit(" + (n = figure(0, 99) / draws.any(1, 9)) + ")", x.limit(n), m.limit(n));
            case 6 -> due("say(" + (n = figure(33, 126)) + ")", x.say(n), m.say(n));
            case 7 -> due("wipe()", x.wipe(), m.wipe());
            case 8 -> due("fault()", x.fault(), m.fault());
            default -> sayActs();
        }
    }

    private String letters(int most) {
        StringBuilder s = new StringBuilder();
        int n = draws.from(1, most);
        for (int i = 0; i < n; i++) {
            s.append((char) ('A' + (draws.below(20) == 0 ? draws.below(9) : anyThere())));
        }
        return s.toString();
    }

    private int anyThere() {
        int p = draws.below(8);
        for (int i = 0; i < 8 && m.weighs(p) < 0; i++) {
            p = (p + 1) % 8;
        }
        return p;
    }

    private void sayActs() {
        StringBuilder s = new StringBuilder();
        int n = draws.from(1, 4);
        for (int i = 0; i < n; i++) {
            String act = ACTS[draws.below(ACTS.length)];
            switch (act) {
                case "^" -> s.append('^').append(letters(1));
                case "|" -> s.append('|').append(letters(draws.any(1, 1, 2, 3))).append(';');
                case "by|" -> s.append(letters(2)).append('|').append(letters(3)).append(';');
                default -> s.append(act);
            }
        }
        if (draws.below(2) == 0) {
            due("wipe()", x.wipe(), m.wipe());
        }
        for (char c : s.toString().toCharArray()) {
            due("say(" + (int) c + ")", x.say(c), m.say(c));
        }
    }

    private void callMarkets(int kind) {
        int p = person(), q = person(), w = what(2);
        switch (kind) {
            case 12 -> {
                due("fault()", x.fault(), m.fault());
                for (int what = -1; what <= 6; what++) {
                    due("judge(" + what + ")", x.judge(what), m.judge(what));
                }
            }
            case 13 -> due("behind(" + p + ", " + w + ")", x.behind(p, w), m.behind(p, w));
            case 14, 15 -> due("done()", x.done(), m.done());
            case 16 -> due("weighs(" + p + ")", x.weighs(p), m.weighs(p));
            case 17 -> due("off(" + p + ")", x.off(p), m.off(p));
            case 18 -> due("out(" + p + ")", x.out(p), m.out(p));
            default -> due("even(" + p + ", " + q + ")", x.even(p, q), m.even(p, q));
        }
    }

    private void callPans(int kind) {
        boolean sworn = draws.below(2) == 0;
        int v = draws.below(4) == 0 ? figure(1, 999) : draws.from(1, 2 * crowd), i = draws.from(-2, 8), set = set();
        switch (kind) {
            case 20 -> {
                for (int what = 0; what <= 2; what++) {
                    due("make(" + v + ", " + sworn + ", " + what + ")", x.make(v, sworn, what), m.make(v, sworn, what));
                }
            }
            case 21 -> due("near(" + v + ", " + sworn + ")", x.near(v, sworn), m.near(v, sworn));
            case 22 -> due("gap(" + sworn + ")", x.gap(sworn), m.gap(sworn));
            case 23 -> due("assize(" + i + ")", x.assize(i), m.assize(i));
            case 24 -> due("just()", x.just(), m.just());
            default -> {
                for (int what = 0; what <= 1; what++) {
                    due("price(" + v + ", " + set + ", " + what + ")", x.price(v, set, what), m.price(v, set, what));
                }
            }
        }
    }

    private void callAirs(int kind) {
        int p = person(), first = set(), second = draws.below(12) == 0 ? set() : set() & ~first, w = what(1);
        int t = figure(0, 10), k = figure(1, 50), seed = figure(0, 9999), sales = figure(1, 99), how = figure(0, 2);
        int image = what(1), told = draws.below(4) == 0 ? draws.from(-3, 95) : draws.any(0, 1, 2, 3, 4, 5);
        switch (kind) {
            case 26, 27 -> due("seen(" + first + ", " + second + ", " + how + ")", x.seen(first, second, how), m.seen(first, second, how));
            case 28 -> {
                if (draws.below(2) == 0) {
                    due("forget()", x.forget(), m.forget());
                }
            }
            case 29 -> due("airs(" + w + ")", x.airs(w), m.airs(w));
            case 30 -> due("air(" + p + ")", x.air(p), m.air(p));
            case 31 -> due("cross(" + w + ")", x.cross(w), m.cross(w));
            case 32 -> {
                for (int part = 0; part <= 1; part++) {
                    String call = "chance(" + first + ", " + second + ", " + t + ", " + k + ", " + w + ", " + part + ")";
                    due(call, x.chance(first, second, t, k, w, part), m.chance(first, second, t, k, w, part));
                }
            }
            case 33 -> {
                for (int what = 0; what <= 2; what++) {
                    due("year(" + seed + ", " + sales + ", " + what + ")", x.year(seed, sales, what), m.year(seed, sales, what));
                }
            }
            case 34 -> {
                if (draws.below(3) == 0) {
                    due("image(" + image + ")", x.image(image), m.image(image));
                } else if (draws.below(3) == 0) {
                    due("restore(" + image + ")", x.restore(image), m.restore(image));
                }
            }
            default -> due("told(" + told + ")", x.told(told), m.told(told));
        }
    }
}
