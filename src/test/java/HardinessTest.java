/** No call throws, whatever its numbers are, and what is refused or only asked changes nothing. */
final class HardinessTest {
    private static final int[] NUMBERS = {
        Integer.MIN_VALUE, Integer.MIN_VALUE + 1, -1000000000, -257, -256, -129, -128, -10, -9, -7, -3, -2, -1, 0, 1, 2, 3, 5, 6, 7, 8, 9,
        10, 11, 13, 20, 33, 50, 51, 60, 84, 90, 99, 100, 126, 127, 128, 200, 201, 255, 256, 257, 400, 401, 999, 1000,
        9999, 10000, 65536, 1000000000, Integer.MAX_VALUE - 1, Integer.MAX_VALUE
    };
    private static final Due d = new Due();

    public static void main(String[] args) {
        for (int seed = 1; seed <= 60; seed++) {
            hardiness(seed);
        }
        fullTown();
        d.end();
    }

    private static int any(Draws draws) {
        return NUMBERS[draws.below(NUMBERS.length)];
    }

    private static SwornPounds town(Draws draws) {
        SwornPounds x = new SwornPounds();
        for (int p = 0; p < 8; p++) {
            if (draws.below(3) > 0) {
                x.person(p, draws.any(1, 200, draws.from(1, 200)), draws.any(1, 400, draws.from(1, 400)), draws.from(-9, 9));
            }
        }
        for (int i = 0; i < 4; i++) {
            x.marry(draws.below(8), draws.below(8), true);
        }
        String[] texts = {"", "..*", "|A;", "^A", "|A", "A|A;", "?", "^"};
        Due.sayAnew(x, texts[draws.below(texts.length)]);
        return x;
    }

    private static void hardiness(int seed) {
        Draws draws = new Draws(seed);
        SwornPounds x = town(draws);
        for (int i = 0; i < 300; i++) {
            String before = seenFromOutside(x);
            boolean mayChange = call(x, draws);
            if (!mayChange) {
                boolean same = before.equals(seenFromOutside(x));
                d.due("seed " + seed + ", call " + i + ": the same as before", same ? 1 : 0, 1);
            }
        }
    }

    /** All that can be asked of the town without a refusal that hangs on numbers. */
    private static String seenFromOutside(SwornPounds x) {
        StringBuilder s = new StringBuilder();
        for (int what = 0; what <= 83; what++) {
            s.append(x.told(what)).append(' ');
        }
        for (int what = 0; what <= 5; what++) {
            s.append(x.judge(what)).append(' ');
        }
        s.append(x.fault()).append(' ').append(x.airs(0)).append(' ').append(x.airs(1));
        return s.toString();
    }

    /** One call; answers whether it was taken and may have changed the town. */
    private static boolean call(SwornPounds x, Draws draws) {
        int a = any(draws), b = any(draws), c = any(draws), e = any(draws), f = any(draws), g = any(draws);
        boolean is = draws.below(2) == 0;
        switch (draws.below(30)) {
            case 0: return x.person(a, b, c, e) >= 0;
            case 1: return x.leave(a) >= 0;
            case 2: return x.marry(a, b, is) >= 0;
            case 3: return x.limit(a) >= 0;
            case 4: return x.say(a) >= 0;
            case 5: return x.wipe() >= 0;
            case 6: return x.done() >= 0;
            case 7: return x.seen(a, b, c) >= 0;
            case 8: return x.forget() >= 0;
            case 9: return x.restore(a) >= 0;
            case 10: x.image(a); return false;
            case 11: x.fault(); return false;
            case 12: x.judge(a); return false;
            case 13: x.behind(a, b); return false;
            case 14: x.weighs(a); return false;
            case 15: x.off(a); return false;
            case 16: x.out(a); return false;
            case 17: x.even(a, b); return false;
            case 18: x.make(a, is, b); return false;
            case 19: x.near(a, is); return false;
            case 20: x.gap(is); return false;
            case 21: x.assize(a); return false;
            case 22: x.just(); return false;
            case 23: x.price(a, b, c); return false;
            case 24: x.airs(a); return false;
            case 25: x.air(a); return false;
            case 26: x.cross(a); return false;
            case 27: x.chance(a, b, c, e, f, g); return false;
            case 28: x.year(a, b, c); return false;
            default: x.told(a); return false;
        }
    }

    /** 512 calls with all at the most: eight persons, sixty signs, eight sights. */
    private static void fullTown() {
        SwornPounds x = new SwornPounds();
        for (int p = 0; p < 8; p++) {
            x.person(p, 200, 400, 9);
        }
        for (int i = 0; i < 8; i++) {
            x.seen(15, 240, 1);
        }
        for (int i = 0; i < 60; i++) {
            x.say('.');
        }
        for (int i = 0; i < 60; i++) {
            d.due("the day behind", x.behind(0, 2), 60);
            d.due("gap", x.gap(false), 1);
            d.due("make", x.make(800, false, 1), 3);
            d.due("near", x.near(999, true), 1);
            d.due("worlds left", x.cross(1), 1);
            d.due("chance", x.chance(127, 128, 9, 50, 0, 0), 1);
        }
    }
}
