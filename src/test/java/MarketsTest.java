/** Promises 9 to 15: judge, behind, done, weighs, off, out, even. */
final class MarketsTest {
    private static final int MIN = Integer.MIN_VALUE, MAX = Integer.MAX_VALUE;
    private static final Due d = new Due();

    public static void main(String[] args) {
        sales();
        theLimit();
        whyNot();
        leastReason();
        refusedMarkets();
        dayFeastCold();
        goodsAreNeverBelowNothing();
        behind();
        done();
        weighsAndOff();
        out();
        even();
        d.end();
    }

    /** A is sworn to 14 and right, B and C are married, 60 and 40, and weigh 63 and 38. */
    private static SwornPounds town() {
        SwornPounds x = new SwornPounds();
        x.person(0, 14, 14, 1);
        x.person(1, 60, 63, 0);
        x.person(2, 40, 38, -1);
        x.marry(1, 2, true);
        return x;
    }

    private static void judged(SwornPounds x, String text, int... due) {
        Due.sayAnew(x, text);
        for (int what = 0; what < due.length; what++) {
            d.due("9: judge(" + what + ") of " + text, x.judge(what), due[what]);
        }
    }

    private static void sales() {
        judged(town(), "", -6, -6, 0, 0, 0, -6);
        judged(town(), "|A;", -6, -6, 1, 14, 14, -6);
        judged(town(), "|CB;A|BC;", -6, -6, 2, 186, 188, -6);
        // after six days A weighs 20 for 14, B and C 63 and 32 for 100
        judged(town(), "......|A;", -6, -6, 1, 14, 20, 6);
        judged(town(), "......|BC;|A;", -6, -6, 2, 114, 115, 7);
        judged(town(), "......BC|A;", 6, 4, -3, -3, -3, -3);
    }

    private static void theLimit() {
        SwornPounds x = town();
        judged(x, ".....|A;", -6, -6, 1, 14, 19, -6);
        x.limit(4);
        judged(x, ".....|A;.|A;", -6, -6, 2, 28, 39, 5);
        x.limit(0);
        judged(x, "|A;.|A;.|A;", -6, -6, 3, 42, 45, 2);
        // too light counts as well
        judged(x, "...|BC;", -6, -6, 1, 100, 98, 3);
        x.limit(2);
        judged(x, "...|BC;", -6, -6, 1, 100, 98, -6);
    }

    private static void whyNot() {
        judged(town(), "|D;", 0, 1, -3, -3, -3, -3);
        judged(town(), "D|A;", 0, 1, -3, -3, -3, -3);
        judged(town(), ".^H", 1, 1, -3);
        judged(town(), "|AA;", 0, 2, -3);
        judged(town(), "AA|BC;", 0, 2, -3);
        judged(town(), "A|A;", 0, 2, -3);
        judged(town(), "|AAA;", 0, 2, -3);
        judged(town(), "AAA|BC;", 0, 2, -3);
        // who sat in the last sale may sit in the next
        judged(town(), "|A;|A;A|BC;", -6, -6, 3, 114, 115, -6);
        judged(town(), "|B;", 0, 3, -3);
        judged(town(), "A|C;", 0, 3, -3);
        judged(town(), "C|AB;", 0, 3, -3);
        judged(town(), "B|C;", 0, 3, -3);
        judged(town(), "BC|A;", 0, 4, -3);
        SwornPounds x = town();
        x.marry(1, 2, false);
        judged(x, "C|B;", -6, -6, 1, 20, 25, -6);
        x.person(4, 13, 13, 0);
        judged(x, "E|A;", -6, -6, 1, 1, 1, -6);
        x.person(3, 14, 300, 0);
        judged(x, "A|D;", 0, 4, -3);
        // the first one is told
        judged(x, ".|BC;^A|AA;|H;", 3, 2, -3);
    }

    private static void leastReason() {
        judged(town(), "BA|AD;", 0, 1);
        judged(town(), "BB|A;", 0, 2);
        judged(town(), "B|A;", 0, 3);
        judged(town(), "|AA;|D;", 0, 2);
    }

    private static void refusedMarkets() {
        SwornPounds x = Due.sayAnew(town(), "|H;?");
        for (int what = 0; what <= 5; what++) {
            d.due("9: a fault comes first", x.judge(what), -5);
        }
        for (int what : new int[] {-1, 6, MIN, MAX}) {
            d.due("9: outside comes before it", x.judge(what), -2);
            d.due("10: outside comes before it", x.behind(0, what), -2);
        }
        d.due("10: no", x.behind(0, 0), -5);
        d.due("11: no", x.done(), -5);
        Due.sayAnew(x, ".|H;");
        for (int what = 0; what <= 2; what++) {
            d.due("10: state", x.behind(0, what), -3);
        }
        d.due("11: state", x.done(), -3);
        d.due("11: refused, the pad stays", x.told(0), 4);
        d.due("11: refused, the day stays", x.told(4), 0);
    }

    private static void dayFeastCold() {
        SwornPounds x = new SwornPounds();
        x.person(0, 10, 398, 9);
        x.person(1, 10, 3, -9);
        x.person(2, 10, 19, 1);
        Due.sayAnew(x, ".");
        d.due("9: 400 at most", x.behind(0, 1), 400);
        d.due("9: 1 at least", x.behind(1, 1), 1);
        d.due("9: drift", x.behind(2, 1), 20);
        Due.sayAnew(x, "*");
        d.due("9: a feast, 400 at most", x.behind(0, 1), 400);
        d.due("9: a feast", x.behind(1, 1), 8);
        d.due("9: a feast is no day", x.behind(1, 2), 0);
        Due.sayAnew(x, "^C");
        d.due("9: a cold, cut", x.behind(2, 0), 18);
        d.due("9: a cold leaves the weight", x.behind(2, 1), 19);
        Due.sayAnew(x, "^C.");
        d.due("9: a cold at 20", x.behind(2, 0), 18);
        Due.sayAnew(x, "^C^C");
        d.due("9: no cold more", x.behind(2, 0), 19);
        judged(x, "^C|C;", -6, -6, 1, 10, 18, 1);
    }

    private static void goodsAreNeverBelowNothing() {
        SwornPounds x = new SwornPounds();
        x.person(0, 10, 50, 0);
        x.person(1, 14, 20, 0);
        judged(x, "A|B;", -6, -6, 1, 4, 0, -6);
        x.limit(3);
        judged(x, "|B;A|B;", -6, -6, 2, 18, 20, 0);
        x.person(1, 14, 14, 0);
        judged(x, "|B;A|B;", -6, -6, 2, 18, 14, 1);
    }

    private static void behind() {
        SwornPounds x = town();
        d.due("10: without acts", x.behind(1, 0), 63);
        d.due("10: without acts, the day", x.behind(1, 2), 0);
        Due.sayAnew(x, "..*^A");
        d.due("10: weighs", x.behind(0, 0), 19);
        d.due("10: weight", x.behind(0, 1), 21);
        d.due("10: day", x.behind(0, 2), 2);
        d.due("10: nothing is done", x.weighs(0), 14);
        d.due("10: nothing is done, the day", x.told(4), 0);
        d.due("10: outside", x.behind(0, -1), -2);
        d.due("10: outside", x.behind(0, 3), -2);
        for (int p : new int[] {-1, 3, 7, 8, MIN, MAX}) {
            d.due("10: no such person", x.behind(p, 0), -1);
            d.due("10: no such person comes first", x.behind(p, 9), -1);
        }
    }

    private static void done() {
        SwornPounds x = town();
        d.due("11: nothing", x.done(), 0);
        Due.sayAnew(x, "^A.|BC;*");
        d.due("11: acts", x.done(), 4);
        d.due("11: the pad is empty", x.told(0), 0);
        d.due("11: the day", x.told(4), 1);
        d.due("11: the cold", x.told(2), 1);
        d.due("11: weighs 0", x.weighs(0), 18);
        d.due("11: weight 0", x.told(11), 20);
        d.due("11: weighs 1", x.weighs(1), 68);
        d.due("11: weighs 2", x.weighs(2), 42);
        d.due("11: from there on", Due.sayAnew(x, ".").done(), 1);
        d.due("11: the next day", x.told(4), 2);
    }

    private static void weighsAndOff() {
        SwornPounds x = new SwornPounds();
        x.person(7, 200, 1, 0);
        x.person(0, 1, 400, 0);
        d.due("12: least", x.weighs(7), 1);
        d.due("12: most", x.weighs(0), 400);
        d.due("13: least", x.off(7), 801);
        d.due("13: most", x.off(0), 1399);
        Due.sayAnew(x, "^A^H").done();
        d.due("12: a cold", x.weighs(0), 360);
        d.due("12: a cold of little", x.weighs(7), 1);
        d.due("13: a cold", x.off(0), 1359);
        for (int p : new int[] {-1, 1, 6, 8, MIN, MAX}) {
            d.due("12: unknown", x.weighs(p), -1);
            d.due("13: unknown", x.off(p), -1);
            d.due("14: unknown", x.out(p), -1);
        }
    }

    private static void out() {
        SwornPounds x = new SwornPounds();
        x.person(0, 14, 14, 1);
        x.person(1, 40, 38, -1);
        x.person(2, 50, 50, 0);
        x.person(3, 100, 1, 1);
        x.person(4, 200, 101, 1);
        d.due("14: above", x.out(0), 6);
        d.due("14: below", x.out(1), 4);
        d.due("14: never", x.out(2), -6);
        d.due("14: now", x.out(3), 0);
        x.limit(99);
        d.due("14: 99 below, then right, then above on no day", x.out(4), -6);
        d.due("14: on day 99 it is 113", x.out(0), -6);
        x.person(0, 13, 13, 1);
        d.due("14: no more than the limit on day 99", x.out(0), -6);
        x.person(0, 13, 14, 1);
        d.due("14: day 99", x.out(0), 99);
        x.limit(5);
        x.person(0, 100, 105, 1);
        d.due("14: 5 is not more than 5", x.out(0), 1);
        Due.sayAnew(x, "^A").done();
        // 105 weighs 95, 5 less than he is sworn to; he comes to 117, which weighs 106
        d.due("14: with a cold", x.out(0), 12);
        x.person(5, 5, 11, -9);
        d.due("14: 6 is more than 5", x.out(5), 0);
        x.limit(6);
        d.due("14: he stays at 1", x.out(5), -6);
    }

    private static void even() {
        SwornPounds x = new SwornPounds();
        x.person(0, 14, 14, 1);
        x.person(1, 60, 63, 0);
        x.person(2, 1, 400, 9);
        x.person(3, 1, 310, 1);
        x.person(4, 1, 63, 5);
        x.person(5, 1, 301, 1);
        x.person(6, 1, 300, 1);
        d.due("15: even(0, 1)", x.even(0, 1), 49);
        d.due("15: turned", x.even(1, 0), 49);
        d.due("15: now", x.even(1, 4), 0);
        d.due("15: both at the most", x.even(2, 3), 90);
        d.due("15: on day 99", x.even(2, 5), 99);
        d.due("15: on day 100", x.even(2, 6), -6);
        x.person(6, 1, 2, -9);
        x.person(7, 1, 10, -9);
        d.due("15: both at the least", x.even(6, 7), 1);
        Due.sayAnew(x, "^B").done();
        d.due("15: colds as they are", x.even(0, 1), 43);
        x.leave(7);
        for (int p : new int[] {-1, 7, 8, MIN, MAX}) {
            d.due("15: unknown", x.even(p, 0), -1);
            d.due("15: unknown", x.even(0, p), -1);
        }
        d.due("15: both are one", x.even(1, 1), -1);
    }
}
