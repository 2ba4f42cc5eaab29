/** No call throws, whatever its numbers are, and what is refused or only asked changes nothing. */
final class HardinessTest {
    private static final int[] NUMBERS = {
        Integer.MIN_VALUE, Integer.MIN_VALUE + 1, -1000000000, -257, -256, -129, -128, -10, -9, -7, -3, -2, -1, 0, 1, 2, 3, 5, 6, 7, 8, 9,
        10, 11, 13, 20, 33, 50, 51, 60, 84, 90, 99, 100, 126, 127, 128, 200, 201, 255, 256, 257, 400, 401, 999, 1000,
        9999, 10000, 65536, 1000000000, Integer.MAX_VALUE - 1, Integer.MAX_VALUE
    };
    /** With those that make the town and those of a Look fewer than the 512 that the document promises. */
    private static final int CALLS = 180;
    private static final Due d = new Due();

    /** One call, whose numbers are drawn once, so that it can be made of two towns. */
    private record Call(int kind, boolean is, int[] n) {
        static Call drawn(Draws draws) {
            int[] n = new int[6];
            for (int i = 0; i < n.length; i++) {
                n[i] = NUMBERS[draws.below(NUMBERS.length)];
            }
            return new Call(draws.below(30), draws.below(2) == 0, n);
        }

        /** Answers whether it was taken and may have changed the town. */
        boolean of(SwornPounds x) {
            switch (kind) {
                case 0: return x.person(n[0], n[1], n[2], n[3]) >= 0;
                case 1: return x.leave(n[0]) >= 0;
                case 2: return x.marry(n[0], n[1], is) >= 0;
                case 3: return x.limit(n[0]) >= 0;
                case 4: return x.say(n[0]) >= 0;
                case 5: return x.wipe() >= 0;
                case 6: return x.done() >= 0;
                case 7: return x.seen(n[0], n[1], n[2]) >= 0;
                case 8: return x.forget() >= 0;
                case 9: return x.restore(n[0]) >= 0;
                case 10: return x.image(n[0]) >= 0;
                default: ask(x); return false;
            }
        }

        private void ask(SwornPounds x) {
            switch (kind) {
                case 11: x.fault(); break;
                case 12: x.judge(n[0]); break;
                case 13: x.behind(n[0], n[1]); break;
                case 14: x.weighs(n[0]); break;
                case 15: x.off(n[0]); break;
                case 16: x.out(n[0]); break;
                case 17: x.even(n[0], n[1]); break;
                case 18: x.make(n[0], is, n[1]); break;
                case 19: x.near(n[0], is); break;
                case 20: x.gap(is); break;
                case 21: x.assize(n[0]); break;
                case 22: x.just(); break;
                case 23: x.price(n[0], n[1], n[2]); break;
                case 24: x.airs(n[0]); break;
                case 25: x.air(n[0]); break;
                case 26: x.cross(n[0]); break;
                case 27: x.chance(n[0], n[1], n[2], n[3], n[4], n[5]); break;
                case 28: x.year(n[0], n[1], n[2]); break;
                default: x.told(n[0]); break;
            }
        }
    }

    public static void main(String[] args) {
        for (int seed = 1; seed <= 1000; seed++) {
            hardiness(seed);
        }
        fullTown();
        d.end();
    }

    private static SwornPounds town(Draws draws) {
        SwornPounds x = new SwornPounds();
        for (int p = 0; p < 8; p++) {
            if (draws.below(3) > 0) {
                x.person(p, draws.any(1, 200, draws.from(1, 200)), draws.any(1, 400, draws.from(1, 400)), draws.from(-9, 9));
            }
        }
        for (int i = 0; i < 4; i++) {
            x.marry(draws.below(8), draws.below(8), true);
        }
        String[] texts = {"", "..*", "|A;", "^A", "|A", "A|A;", "?", "^"};
        Due.sayAnew(x, texts[draws.below(texts.length)]);
        return x;
    }

    /** Of two towns that are made alike, one gets all calls, and the other one only those that may change it. */
    private static void hardiness(int seed) {
        Draws draws = new Draws(seed);
        SwornPounds all = town(new Draws(-seed));
        SwornPounds taken = town(new Draws(-seed));
        for (int i = 0; i < CALLS; i++) {
            Call call = Call.drawn(draws);
            if (call.of(all)) {
                call.of(taken);
            }
        }
        boolean same = Look.atAll(all).equals(Look.atAll(taken));
        d.due("seed " + seed + ": what is refused or asked changes nothing", same ? 1 : 0, 1);
    }

    /** Fewer than 512 calls with all at the most: eight persons, sixty signs, eight sights. */
    private static void fullTown() {
        SwornPounds x = new SwornPounds();
        for (int p = 0; p < 8; p++) {
            x.person(p, 200, 400, 9);
        }
        for (int i = 0; i < 8; i++) {
            x.seen(15, 240, 1);
        }
        for (int i = 0; i < 60; i++) {
            x.say('.');
        }
        for (int i = 0; i < 60; i++) {
            d.due("the day behind", x.behind(0, 2), 60);
            d.due("gap", x.gap(false), 1);
            d.due("make", x.make(800, false, 1), 3);
            d.due("near", x.near(999, true), 1);
            d.due("worlds left", x.cross(1), 1);
            d.due("chance", x.chance(127, 128, 9, 50, 0, 0), 1);
        }
    }
}
