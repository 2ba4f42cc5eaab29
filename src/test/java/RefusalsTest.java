import java.util.function.Supplier;
import java.util.function.ToLongFunction;

/** The first paragraph of 'Terms': what refused calls answer, in which order, and that they change nothing. */
final class RefusalsTest {
    private static final int MIN = Integer.MIN_VALUE, MAX = Integer.MAX_VALUE;
    private static final int UNKNOWN = -1, OUTSIDE = -2, STATE = -3, FULL = -4, NO = -5;
    private static final long GONE = -1000000000000000000L;

    /** E to H are not there; a bit at 32 or 36 would wrap around to A or E. */
    private static final int[] NOBODY = {-1, 4, 7, 8, 32, 36, MIN, MAX};
    private static final int[] NO_NUMBER = {-1, 8, 32, MIN, MAX};
    /** Sets with one who is not there, of bits 4 to 31. */
    private static final int[] NO_SET = {16, 17, 128, 256, 257, 65536, -1, MIN, MAX};
    private static final Due d = new Due();

    public static void main(String[] args) {
        persons();
        signs();
        markets();
        marketsThatCanNotBe();
        pans();
        prices();
        sights();
        fullSights();
        chances();
        yearsAndImages();
        figures();
        orderOfRefusals();
        aSignChangesTheFault();
        d.end();
    }

    /** A and B are married, C has a cold, D is alone; image 0 is another town, and image 1 was not kept. */
    private static SwornPounds town() {
        SwornPounds x = new SwornPounds();
        x.person(0, 14, 15, 1);
        x.person(5, 9, 9, 9);
        x.marry(5, 0, true);
        x.limit(11);
        x.image(0);
        x.leave(5);
        x.person(1, 60, 63, 0);
        x.person(2, 40, 38, -1);
        x.person(3, 5, 6, 2);
        x.marry(0, 1, true);
        x.limit(7);
        Due.sayAnew(x, "^C.").done();
        x.seen(4, 8, 2);
        x.seen(1, 2, 0);
        return Due.sayAnew(x, ".|C;");
    }

    private static SwornPounds sayingOf(String text) {
        return Due.sayAnew(town(), text);
    }

    private static void refused(Supplier<SwornPounds> town, String call, long want, ToLongFunction<SwornPounds> of) {
        SwornPounds x = town.get();
        d.due(call, of.applyAsLong(x), want);
        boolean same = Look.atAll(x).equals(Look.atAll(town.get()));
        d.due(call + " changes nothing", same ? 1 : 0, 1);
    }

    private static void refused(String call, long want, ToLongFunction<SwornPounds> of) {
        refused(RefusalsTest::town, call, want, of);
    }

    private static void persons() {
        for (int p : NO_NUMBER) {
            refused("2: person(" + p + ")", UNKNOWN, x -> x.person(p, 20, 20, 2));
        }
        for (int p : new int[] {0, 4}) {
            for (int wrong : new int[] {0, 201, -1, MIN, MAX}) {
                refused("2: sworn to " + wrong, OUTSIDE, x -> x.person(p, wrong, 20, 2));
            }
            for (int wrong : new int[] {0, 401, -1, MIN, MAX}) {
                refused("2: weight of " + wrong, OUTSIDE, x -> x.person(p, 20, wrong, 2));
            }
            for (int wrong : new int[] {-10, 10, MIN, MAX}) {
                refused("2: drift of " + wrong, OUTSIDE, x -> x.person(p, 20, 20, wrong));
            }
        }
        for (int p : NOBODY) {
            refused("3: leave(" + p + ")", UNKNOWN, x -> x.leave(p));
            for (boolean is : new boolean[] {true, false}) {
                refused("4: marry(" + p + ", 2)", UNKNOWN, x -> x.marry(p, 2, is));
                refused("4: marry(2, " + p + ")", UNKNOWN, x -> x.marry(2, p, is));
            }
        }
        marriages();
        for (int v : new int[] {-1, 100, MIN, MAX}) {
            refused("5: limit(" + v + ")", OUTSIDE, x -> x.limit(v));
        }
    }

    private static void marriages() {
        for (int p = 0; p < 4; p++) {
            int one = p;
            refused("4: one with himself", UNKNOWN, x -> x.marry(one, one, true));
            refused("4: one not with himself", UNKNOWN, x -> x.marry(one, one, false));
        }
        refused("4: A is taken", STATE, x -> x.marry(0, 2, true));
        refused("4: A is taken, turned", STATE, x -> x.marry(2, 0, true));
        refused("4: B is taken", STATE, x -> x.marry(1, 3, true));
        refused("4: B is taken, turned", STATE, x -> x.marry(3, 1, true));
        refused("4: two who are free are not married", STATE, x -> x.marry(2, 3, false));
        refused("4: one is married to another one", STATE, x -> x.marry(0, 2, false));
        refused("4: one is married to another one, turned", STATE, x -> x.marry(2, 0, false));
    }

    private static void signs() {
        Supplier<SwornPounds> fullPad = () -> sayingOf(".".repeat(60));
        for (int sign : new int[] {32, 127, 0, -1, 124 + 256, MIN, MAX}) {
            refused("6: say(" + sign + ")", OUTSIDE, x -> x.say(sign));
            refused(fullPad, "6: say(" + sign + ") on a full pad", OUTSIDE, x -> x.say(sign));
        }
        for (int sign : new int[] {33, '.', 'A', 126}) {
            refused(fullPad, "6: say(" + sign + ") on a full pad", FULL, x -> x.say(sign));
        }
    }

    private static void markets() {
        for (int what : new int[] {-1, 6, MIN, MAX}) {
            refused("9: judge(" + what + ")", OUTSIDE, x -> x.judge(what));
        }
        for (int what : new int[] {-1, 3, MIN, MAX}) {
            refused("10: behind(2, " + what + ")", OUTSIDE, x -> x.behind(2, what));
        }
        for (int p : NOBODY) {
            refused("10: behind(" + p + ", 0)", UNKNOWN, x -> x.behind(p, 0));
            refused("12: weighs(" + p + ")", UNKNOWN, x -> x.weighs(p));
            refused("13: off(" + p + ")", UNKNOWN, x -> x.off(p));
            refused("14: out(" + p + ")", UNKNOWN, x -> x.out(p));
            refused("15: even(" + p + ", 1)", UNKNOWN, x -> x.even(p, 1));
            refused("15: even(1, " + p + ")", UNKNOWN, x -> x.even(1, p));
        }
        for (int p = 0; p < 4; p++) {
            int one = p;
            refused("15: even(" + one + ", " + one + ")", UNKNOWN, x -> x.even(one, one));
        }
    }

    private static void marketsThatCanNotBe() {
        String[] faults = {"?", ".|", "|C;^", ".A", ".|C", "|C;;"};
        String[] bad = {".|E;", "^C^H", "*|CC;", "|A;", "C|C;", "C|D;"};
        for (int i = 0; i < 6; i++) {
            String fault = faults[i], act = bad[i];
            int what = i;
            refused(() -> sayingOf(fault), "9: judge(" + what + ") of " + fault, NO, x -> x.judge(what));
            refused(() -> sayingOf(fault), "10: behind of " + fault, NO, x -> x.behind(2, what % 3));
            refused(() -> sayingOf(fault), "11: done() of " + fault, NO, x -> x.done());
            refused(() -> sayingOf(act), "9: judge of " + act, STATE, x -> x.judge(2 + what % 4));
            refused(() -> sayingOf(act), "10: behind of " + act, STATE, x -> x.behind(2, what % 3));
            refused(() -> sayingOf(act), "11: done() of " + act, STATE, x -> x.done());
        }
    }

    private static void pans() {
        for (boolean sworn : new boolean[] {true, false}) {
            for (int v : new int[] {0, 1000, -1, MIN, MAX}) {
                refused("16: make(" + v + ")", OUTSIDE, x -> x.make(v, sworn, 0));
                refused("17: near(" + v + ")", OUTSIDE, x -> x.near(v, sworn));
            }
            for (int what : new int[] {-1, 3, MIN, MAX}) {
                refused("16: make(5, sworn, " + what + ")", OUTSIDE, x -> x.make(5, sworn, what));
            }
        }
    }

    private static void prices() {
        for (int set : NO_SET) {
            refused("21: price(10, " + set + ", 0)", UNKNOWN, x -> x.price(10, set, 0));
        }
        for (int g : new int[] {0, 1000, -1, MIN, MAX}) {
            refused("21: price(" + g + ", 0, 0)", OUTSIDE, x -> x.price(g, 0, 0));
        }
        for (int what : new int[] {-1, 2, MIN, MAX}) {
            refused("21: price(10, 0, " + what + ")", OUTSIDE, x -> x.price(10, 0, what));
        }
        for (int set : new int[] {1, 2, 5, 6, 9, 10, 13, 14}) {
            refused("21: price(10, " + set + ", 0)", STATE, x -> x.price(10, set, 0));
            refused("21: price(10, " + set + ", 1)", STATE, x -> x.price(10, set, 1));
        }
    }

    private static void sights() {
        for (int set : NO_SET) {
            refused("22: seen(" + set + ", 4, 1)", UNKNOWN, x -> x.seen(set, 4, 1));
            refused("22: seen(4, " + set + ", 1)", UNKNOWN, x -> x.seen(4, set, 1));
        }
        refused("22: an empty first set", UNKNOWN, x -> x.seen(0, 4, 1));
        refused("22: an empty second set", UNKNOWN, x -> x.seen(4, 0, 1));
        refused("22: both are empty", UNKNOWN, x -> x.seen(0, 0, 1));
        refused("22: the same one on both", UNKNOWN, x -> x.seen(8, 8, 1));
        refused("22: one on both", UNKNOWN, x -> x.seen(6, 12, 1));
        for (int how : new int[] {-1, 3, MIN, MAX}) {
            refused("22: seen(1, 2, " + how + ")", OUTSIDE, x -> x.seen(1, 2, how));
        }
        for (int what : new int[] {-1, 2, MIN, MAX}) {
            refused("24: airs(" + what + ")", OUTSIDE, x -> x.airs(what));
            refused("26: cross(" + what + ")", OUTSIDE, x -> x.cross(what));
        }
        for (int p : NOBODY) {
            refused("25: air(" + p + ")", UNKNOWN, x -> x.air(p));
        }
    }

    private static SwornPounds fullOfSights() {
        SwornPounds x = town();
        for (int i = 3; i <= 8; i++) {
            x.seen(4, 8, 2);
        }
        return x;
    }

    private static void fullSights() {
        for (int how = 0; how <= 2; how++) {
            int ninth = how;
            refused(RefusalsTest::fullOfSights, "22: a ninth", FULL, x -> x.seen(1, 2, ninth));
        }
        refused(RefusalsTest::fullOfSights, "22: outside comes before full", OUTSIDE, x -> x.seen(1, 2, 3));
        refused(RefusalsTest::fullOfSights, "22: unknown comes before full", UNKNOWN, x -> x.seen(1, 16, 1));
    }

    private static void chances() {
        for (int part = 0; part <= 1; part++) {
            int of = part;
            for (int set : NO_SET) {
                refused("27: chance(" + set + ", 4)", GONE + UNKNOWN, x -> x.chance(set, 4, 5, 5, of, of));
                refused("27: chance(4, " + set + ")", GONE + UNKNOWN, x -> x.chance(4, set, 5, 5, of, of));
            }
            refused("27: an empty first set", GONE + UNKNOWN, x -> x.chance(0, 4, 5, 5, of, of));
            refused("27: an empty second set", GONE + UNKNOWN, x -> x.chance(4, 0, 5, 5, of, of));
            refused("27: one on both", GONE + UNKNOWN, x -> x.chance(6, 12, 5, 5, of, of));
            for (int wrong : new int[] {-1, 11, MIN, MAX}) {
                refused("27: t " + wrong, GONE + OUTSIDE, x -> x.chance(1, 2, wrong, 5, of, of));
            }
            for (int wrong : new int[] {0, 51, -1, MIN, MAX}) {
                refused("27: k " + wrong, GONE + OUTSIDE, x -> x.chance(1, 2, 5, wrong, of, of));
            }
            for (int wrong : new int[] {-1, 2, MIN, MAX}) {
                refused("27: what " + wrong, GONE + OUTSIDE, x -> x.chance(1, 2, 5, 5, wrong, of));
                refused("27: part " + wrong, GONE + OUTSIDE, x -> x.chance(1, 2, 5, 5, of, wrong));
            }
        }
    }

    private static void yearsAndImages() {
        for (int seed : new int[] {-1, 10000, MIN, MAX}) {
            refused("28: seed " + seed, OUTSIDE, x -> x.year(seed, 5, 0));
        }
        for (int m : new int[] {0, 100, -1, MIN, MAX}) {
            refused("28: m " + m, OUTSIDE, x -> x.year(5, m, 0));
        }
        for (int what : new int[] {-1, 3, MIN, MAX}) {
            refused("28: what " + what, OUTSIDE, x -> x.year(5, 5, what));
        }
        for (int k : new int[] {-1, 2, MIN, MAX}) {
            refused("29: image(" + k + ")", OUTSIDE, x -> x.image(k));
            refused("30: restore(" + k + ")", OUTSIDE, x -> x.restore(k));
        }
        refused("30: an image that was not kept", STATE, x -> x.restore(1));
    }

    private static void figures() {
        int[] wrong = {-1, -10, 6, 9, 14, 19, 24, 44, 49, 50, 51, 52, 53, 80, 83, 90, 91, 100, 10 + 256, 10 + 320, MIN, MAX};
        for (int what : wrong) {
            refused("31: told(" + what + ")", OUTSIDE, x -> x.told(what));
        }
    }

    /** "The first of these that fits": UNKNOWN, OUTSIDE, NO, STATE, FULL; each row fits those that come later, too. */
    private static void orderOfRefusals() {
        refused("2: unknown, outside", UNKNOWN, x -> x.person(8, 0, 0, 10));
        refused("4: unknown, state", UNKNOWN, x -> x.marry(0, 4, true));
        refused("4: unknown, state, not", UNKNOWN, x -> x.marry(4, 0, false));
        refused("4: both are one, who is taken", UNKNOWN, x -> x.marry(0, 0, true));
        Supplier<SwornPounds> faulty = () -> sayingOf(".|E;?");
        Supplier<SwornPounds> bad = () -> sayingOf(".|E;");
        refused(faulty, "9: outside, no, state", OUTSIDE, x -> x.judge(6));
        refused(bad, "9: outside, state", OUTSIDE, x -> x.judge(-1));
        refused(faulty, "9: no, state", NO, x -> x.judge(2));
        refused(faulty, "10: unknown, outside, no, state", UNKNOWN, x -> x.behind(4, 3));
        refused(faulty, "10: unknown, no, state", UNKNOWN, x -> x.behind(4, 0));
        refused(bad, "10: unknown, state", UNKNOWN, x -> x.behind(4, 0));
        refused(faulty, "10: outside, no, state", OUTSIDE, x -> x.behind(2, 3));
        refused(bad, "10: outside, state", OUTSIDE, x -> x.behind(2, 3));
        refused(faulty, "10: no, state", NO, x -> x.behind(2, 0));
        refused(faulty, "11: no, state", NO, x -> x.done());
        refused("21: unknown, outside, state", UNKNOWN, x -> x.price(0, 17, 2));
        refused("21: unknown, state", UNKNOWN, x -> x.price(10, 17, 0));
        refused("21: outside, state", OUTSIDE, x -> x.price(0, 1, 0));
        refused("21: outside by what, state", OUTSIDE, x -> x.price(10, 1, 2));
        refused("22: unknown, outside", UNKNOWN, x -> x.seen(1, 1, 3));
        refused("27: unknown, outside", GONE + UNKNOWN, x -> x.chance(0, 1, 11, 51, 2, 2));
        refused(SwornPounds::new, "26: outside, none", OUTSIDE, x -> x.cross(2));
        refused(SwornPounds::new, "16: outside, none", OUTSIDE, x -> x.make(1, true, 3));
        refused(SwornPounds::new, "21: outside, none", OUTSIDE, x -> x.price(1, 0, 2));
        refused(SwornPounds::new, "30: outside, state", OUTSIDE, x -> x.restore(2));
    }

    /** "They change nothing (a sign that is said changes what fault() tells)" */
    private static void aSignChangesTheFault() {
        SwornPounds x = new SwornPounds();
        String text = "|A;^B.A|?;";
        int[] due = {1, 2, -6, 4, -6, -6, 7, 8, 8, 8};
        for (int i = 0; i < due.length; i++) {
            x.say(text.charAt(i));
            d.due("6: the fault when so many are said: " + (i + 1), x.fault(), due[i]);
            x.say(32);
            x.say(127);
            d.due("6: the fault after refused ones, too: " + (i + 1), x.fault(), due[i]);
        }
    }
}
