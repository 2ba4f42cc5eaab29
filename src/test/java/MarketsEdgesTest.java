/** The boundaries that 'Terms', parts 1 and 2, and the promises 9 to 15 name: one method for each sentence. */
final class MarketsEdgesTest {
    private static final int MIN = Integer.MIN_VALUE, MAX = Integer.MAX_VALUE;
    private static final Due d = new Due();

    public static void main(String[] args) {
        noSuchPerson();
        sitsTwice();
        marriedSits();
        soldAsNothing();
        leastReason();
        firstThatCanNot();
        afterOneThatCanNot();
        noneCanNot();
        howManySales();
        goodsAtLeastNothing();
        moreThanLimit();
        firstSaleThatIsOff();
        whatOfJudge();
        behind();
        done();
        weighsNow();
        off();
        outNow();
        outOnTheLastDay();
        outAboveOrBelow();
        outWithinBounds();
        outWithCold();
        outFromNowOn();
        evenNow();
        evenOnTheLastDay();
        evenWithinBounds();
        evenWithColds();
        evenOfBoth();
        d.end();
    }

    /** A 10, B 20, C 30, D 40: sworn to and weighing as much; C and D are married. */
    private static SwornPounds town() {
        SwornPounds x = new SwornPounds();
        for (int p = 0; p < 4; p++) {
            x.person(p, 10 * (p + 1), 10 * (p + 1), 0);
        }
        x.marry(2, 3, true);
        return x;
    }

    private static SwornPounds one(int sworn, int weight, int drift) {
        SwornPounds x = new SwornPounds();
        x.person(0, sworn, weight, drift);
        return x;
    }

    private static void dueBad(String text, int act, int why) {
        SwornPounds x = Due.sayAnew(town(), text);
        d.due("9: judge(0) of " + text, x.judge(0), act);
        d.due("9: judge(1) of " + text, x.judge(1), why);
        for (int what = 2; what <= 5; what++) {
            d.due("9: judge(" + what + ") of " + text, x.judge(what), -3);
        }
    }

    private static void dueSold(String text, int sales, int sold, int pounds) {
        SwornPounds x = Due.sayAnew(town(), text);
        int[] due = {-6, -6, sales, sold, pounds};
        for (int what = 0; what < due.length; what++) {
            d.due("9: judge(" + what + ") of " + text, x.judge(what), due[what]);
        }
    }

    /** "1 there is no such PERSON" */
    private static void noSuchPerson() {
        dueBad("|E;", 0, 1);
        dueBad("|H;", 0, 1);
        dueBad("|AE;", 0, 1);
        dueBad("E|A;", 0, 1);
        dueBad("AE|B;", 0, 1);
        dueBad("^E", 0, 1);
        dueBad("^H", 0, 1);
        SwornPounds x = town();
        x.leave(0);
        Due.sayAnew(x, "|A;");
        d.due("9: who is no more", x.judge(1), 1);
        x.person(0, 10, 10, 0);
        d.due("9: who is there again", x.judge(1), -6);
    }

    /** "2 one sits twice (on one pan or on both)" */
    private static void sitsTwice() {
        dueBad("|AA;", 0, 2);
        dueBad("|ABA;", 0, 2);
        dueBad("|AAA;", 0, 2);
        dueBad("|AAAA;", 0, 2);
        dueBad("AA|B;", 0, 2);
        dueBad("A|AB;", 0, 2);
        dueBad("AB|CDA;", 0, 2);
        dueBad("|CDC;", 0, 2);
        dueBad("AAA|CD;", 0, 2);
        dueSold("|A;|A;", 2, 20, 20);
        dueSold("A|B;A|B;", 2, 20, 20);
        dueSold("A|B;B|CD;", 2, 60, 60);
        SwornPounds x = Due.sayAnew(town(), "|AA;");
        d.due("9: twice", x.judge(1), 2);
        Due.sayAnew(x, "|A;");
        d.due("9: once, when it is said anew", x.judge(1), -6);
        d.due("9: once, sold as", x.judge(3), 10);
    }

    /** "3 one who is MARRIED sits, and the other does not sit on the same pan" */
    private static void marriedSits() {
        dueBad("|C;", 0, 3);
        dueBad("|D;", 0, 3);
        dueBad("|ABC;", 0, 3);
        dueBad("A|D;", 0, 3);
        dueBad("C|D;", 0, 3);
        dueBad("D|C;", 0, 3);
        dueBad("AC|D;", 0, 3);
        dueBad("C|ABD;", 0, 3);
        dueSold("|CD;", 1, 70, 70);
        dueSold("|DAC;", 1, 80, 80);
        SwornPounds x = town();
        x.person(4, 100, 100, 0);
        Due.sayAnew(x, "CD|E;");
        d.due("9: both by the goods", x.judge(3), 30);
        Due.sayAnew(x, "C|E;");
        d.due("9: one by the goods", x.judge(1), 3);
        x.marry(2, 3, false);
        d.due("9: not married any more", x.judge(3), 70);
    }

    /** "4 the goods would be sold as 0 or less" */
    private static void soldAsNothing() {
        dueBad("B|A;", 0, 4);
        dueBad("CD|AB;", 0, 4);
        SwornPounds x = one(10, 10, 0);
        x.person(1, 10, 400, 0);
        Due.sayAnew(x, "A|B;");
        d.due("9: as 0", x.judge(1), 4);
        x.person(1, 9, 400, 0);
        d.due("9: as 1 less", x.judge(1), 4);
        x.person(1, 11, 1, 0);
        d.due("9: as 1", x.judge(1), -6);
        d.due("9: sold as 1", x.judge(3), 1);
    }

    /** "An ACT can not be for the least of these reasons" */
    private static void leastReason() {
        dueBad("|EE;", 0, 1);
        dueBad("EE|A;", 0, 1);
        dueBad("E|E;", 0, 1);
        dueBad("AA|E;", 0, 1);
        dueBad("C|E;", 0, 1);
        dueBad("E|C;", 0, 1);
        dueBad("B|AE;", 0, 1);
        dueBad("CC|DAE;", 0, 1);
        dueBad("|CC;", 0, 2);
        dueBad("CAA|D;", 0, 2);
        dueBad("B|AA;", 0, 2);
        dueBad("A|A;", 0, 2);
        dueBad("BB|C;", 0, 2);
        dueBad("D|AB;", 0, 3);
        dueBad("D|C;", 0, 3);
    }

    /** "the first ACT (from 0 on) that can not be" */
    private static void firstThatCanNot() {
        dueBad("|E;|AA;|C;B|A;", 0, 1);
        dueBad("|AA;|E;", 0, 2);
        dueBad("B|A;|E;", 0, 4);
        dueBad("|A;|C;|E;", 1, 3);
        dueBad(".*^A|B;|C;", 4, 3);
        dueBad(".^E", 1, 1);
        dueBad(".".repeat(58) + "^E", 58, 1);
        dueBad("|A;".repeat(19) + "|E;", 19, 1);
        dueBad("^A".repeat(29) + "^H", 29, 1);
    }

    /** Where one ACT can not be, those behind it do not count, and nothing stays of them for the next text. */
    private static void afterOneThatCanNot() {
        SwornPounds x = Due.sayAnew(town(), "A.|B");
        d.due("9: a fault", x.judge(0), -5);
        Due.sayAnew(x, "A|E;.^A");
        d.due("9: why", x.judge(1), 1);
        Due.sayAnew(x, "|B;");
        d.due("9: sold as", x.judge(3), 20);
        d.due("9: pounds", x.judge(4), 20);
        d.due("10: the day", x.behind(1, 2), 0);
        d.due("11: acts", x.done(), 1);
    }

    /** "NONE": no ACT that can not be. */
    private static void noneCanNot() {
        for (String text : new String[] {"", ".", "*", "^A", "|A;", "A|B;", "|CD;"}) {
            SwornPounds x = Due.sayAnew(town(), text);
            d.due("9: judge(0) of " + text, x.judge(0), -6);
            d.due("9: judge(1) of " + text, x.judge(1), -6);
            d.due("9: judge(5) of " + text, x.judge(5), -6);
        }
        SwornPounds x = Due.sayAnew(new SwornPounds(), ".*.");
        d.due("9: with nobody there", x.judge(0), -6);
        d.due("11: with nobody there", x.done(), 3);
    }

    /** "how many sales; pounds SOLD in all; pounds that they were": from none to all that sixty signs hold. */
    private static void howManySales() {
        dueSold("", 0, 0, 0);
        dueSold("..*^A", 0, 0, 0);
        dueSold("|A;", 1, 10, 10);
        dueSold("|A;".repeat(20), 20, 200, 200);
        SwornPounds x = new SwornPounds();
        for (int p = 0; p < 8; p++) {
            x.person(p, 200, 400, 0);
        }
        Due.sayAnew(x, "|ABCDEFGH;".repeat(6));
        d.due("9: sales", x.judge(2), 6);
        d.due("9: the most that is sold", x.judge(3), 9600);
        d.due("9: the most that they were", x.judge(4), 19200);
    }

    private static void dueGoods(int across, int want) {
        SwornPounds x = one(10, 50, 0);
        x.person(1, 14, across, 0);
        Due.sayAnew(x, "A|B;");
        d.due("9: goods of " + across + " less 50", x.judge(4), want);
        d.due("9: sold as", x.judge(3), 4);
    }

    /** "they are what those WEIGH less what these do (0 at least)" */
    private static void goodsAtLeastNothing() {
        dueGoods(52, 2);
        dueGoods(51, 1);
        dueGoods(50, 0);
        dueGoods(49, 0);
        dueGoods(1, 0);
        SwornPounds x = one(10, 50, 0);
        x.person(1, 14, 1, 0);
        Due.sayAnew(x, "A|B;");
        x.limit(4);
        d.due("9: 0 for 4", x.judge(5), -6);
        x.limit(3);
        d.due("9: 0 for 4, off", x.judge(5), 0);
    }

    /** "whose goods differ by more than LIMIT (0 to 99; 5 at first)" */
    private static void moreThanLimit() {
        for (int limit : new int[] {5, 0, 1, 6, 98, 99}) {
            for (int by : new int[] {limit + 1, limit, -limit, -limit - 1}) {
                SwornPounds x = one(120, 120 + by, 0);
                if (limit != 5) {
                    x.limit(limit);
                }
                Due.sayAnew(x, ".|A;");
                d.due("9: limit " + limit + ", off by " + by, x.judge(5), Math.abs(by) > limit ? 1 : -6);
            }
        }
    }

    /** "the first sale's ACT (from 0 on, of all ACTS) ... (NONE)" */
    private static void firstSaleThatIsOff() {
        SwornPounds x = one(10, 16, 0);
        x.person(1, 10, 10, 0);
        String[] texts = {"|A;", "|A;|A;", "|B;|A;|A;", ".*|B;", ".^A|B;|B;|A;", "*|A;.", "|B;", ".|B;*", "|AB;", "..^B...|A;"};
        int[] due = {0, 0, 1, -6, -6, 1, -6, -6, 0, 6};
        for (int i = 0; i < texts.length; i++) {
            Due.sayAnew(x, texts[i]);
            d.due("9: judge(5) of " + texts[i], x.judge(5), due[i]);
        }
        Due.sayAnew(x, ".".repeat(57) + "|A;");
        d.due("9: behind 57 days", x.judge(5), 57);
    }

    /** "judge(int what): ... OUTSIDE; NO: there is a FAULT; STATE (2 on): some ACT can not be." */
    private static void whatOfJudge() {
        String[] texts = {"|A;", "|C;", "|C"};
        int[][] due = {{-2, -6, -6, 1, 10, 10, -6, -2}, {-2, 0, 3, -3, -3, -3, -3, -2}, {-2, -5, -5, -5, -5, -5, -5, -2}};
        for (int i = 0; i < texts.length; i++) {
            SwornPounds x = Due.sayAnew(town(), texts[i]);
            for (int what = -1; what <= 6; what++) {
                d.due("9: judge(" + what + ") of " + texts[i], x.judge(what), due[i][what + 1]);
            }
            d.due("9: judge(MIN)", x.judge(MIN), -2);
            d.due("9: judge(MAX)", x.judge(MAX), -2);
        }
    }

    /** "what one WEIGHS (what = 0), WEIGHT (1), the day (2). UNKNOWN; OUTSIDE; NO, STATE, as of judge(2)." */
    private static void behind() {
        SwornPounds x = one(10, 20, 1);
        Due.sayAnew(x, "..").done();
        int[] now = {22, 22, 2};
        int[] then = {22, 24, 4};
        for (int what = 0; what <= 2; what++) {
            d.due("10: of an empty pad, " + what, x.behind(0, what), now[what]);
        }
        Due.sayAnew(x, "..^A");
        for (int what = 0; what <= 2; what++) {
            d.due("10: of two days, " + what, x.behind(0, what), then[what]);
        }
        for (int what : new int[] {-1, 3, MIN, MAX}) {
            d.due("10: behind(0, " + what + ")", x.behind(0, what), -2);
        }
        Due.sayAnew(x, ".".repeat(60));
        d.due("10: sixty days on", x.behind(0, 2), 62);
        d.due("10: sixty pounds more", x.behind(0, 1), 82);
        Due.sayAnew(x, ".A");
        d.due("10: no", x.behind(0, 2), -5);
        Due.sayAnew(x, ".|B;");
        d.due("10: state", x.behind(0, 2), -3);
        d.due("10: unknown", x.behind(1, 2), -1);
    }

    /** "The MARKET is DONE (the PAD is empty then): ACTS. NO, STATE, likewise." */
    private static void done() {
        SwornPounds x = town();
        d.due("11: of an empty pad", x.done(), 0);
        Due.sayAnew(x, "|A;");
        d.due("11: one sale", x.done(), 1);
        d.due("11: the pad is empty", x.told(0), 0);
        Due.sayAnew(x, ".".repeat(60));
        d.due("11: the most", x.done(), 60);
        d.due("11: the pad is empty", x.told(0), 0);
        Due.sayAnew(x, ".|A");
        d.due("11: no", x.done(), -5);
        d.due("11: the pad stays", x.told(0), 3);
        Due.sayAnew(x, ".|C;");
        d.due("11: state", x.done(), -3);
        d.due("11: the pad stays", x.told(0), 4);
        d.due("11: no day more", x.told(4), 60);
        x.limit(8);
        x.seen(1, 2, 0);
        Due.sayAnew(x, "*^A|B;").done();
        d.due("11: a feast is done", x.told(21), 25);
        d.due("11: a cold is done", x.told(2), 1);
        d.due("11: the limit stays", x.told(3), 8);
        d.due("11: the sight stays", x.told(5), 1);
        d.due("11: the marriage stays", x.told(33), 3);
    }

    /** "What one WEIGHS now. UNKNOWN." */
    private static void weighsNow() {
        SwornPounds x = one(10, 20, 3);
        Due.sayAnew(x, ".");
        d.due("12: a day that is only said", x.weighs(0), 20);
        x.done();
        d.due("12: now", x.weighs(0), 23);
        x.leave(0);
        d.due("12: who is no more", x.weighs(0), -1);
    }

    /** "OFF: what one WEIGHS less what he is SWORN to, and 1000." */
    private static void off() {
        int[][] rows = {{200, 1, 801}, {200, 199, 999}, {200, 200, 1000}, {200, 201, 1001}, {1, 400, 1399}, {1, 1, 1000}};
        for (int[] row : rows) {
            d.due("13: off of " + row[1] + " for " + row[0], one(row[0], row[1], 9).off(0), row[2]);
        }
        SwornPounds x = one(10, 10, 0);
        Due.sayAnew(x, "^A").done();
        d.due("13: with a cold", x.off(0), 999);
        d.due("13: unknown", x.off(1), -1);
    }

    private static void dueOut(int sworn, int weight, int drift, int limit, int want) {
        SwornPounds x = one(sworn, weight, drift);
        x.limit(limit);
        d.due("14: out of " + weight + " for " + sworn + ", drift " + drift + ", limit " + limit, x.out(0), want);
    }

    /** "0: now"; "OFF by more than LIMIT" */
    private static void outNow() {
        dueOut(100, 105, 0, 5, -6);
        dueOut(100, 106, 0, 5, 0);
        dueOut(100, 95, 0, 5, -6);
        dueOut(100, 94, 0, 5, 0);
        dueOut(100, 100, 0, 0, -6);
        dueOut(100, 101, 0, 0, 0);
        dueOut(100, 99, 0, 0, 0);
        dueOut(100, 106, -9, 5, 0);
        dueOut(100, 105, 1, 5, 1);
        dueOut(100, 95, -1, 5, 1);
        d.due("14: limit 5 at first", one(100, 100, 1).out(0), 6);
    }

    /** "(0 to 99 days on ...)"; "NONE" */
    private static void outOnTheLastDay() {
        dueOut(1, 1, 1, 98, 99);
        dueOut(1, 2, 1, 99, 99);
        dueOut(1, 1, 1, 99, -6);
        dueOut(200, 199, -1, 99, 99);
        dueOut(200, 200, -1, 99, -6);
        dueOut(200, 200, -1, 98, 99);
        dueOut(200, 200, 0, 0, -6);
    }

    /** "OFF by more than LIMIT, above or below (1000 aside)" */
    private static void outAboveOrBelow() {
        dueOut(100, 100, 3, 6, 3);
        dueOut(100, 100, -3, 6, 3);
        // from far below to right, before it is above
        dueOut(100, 90, 5, 10, 5);
        dueOut(100, 110, -5, 10, 5);
        dueOut(100, 90, 5, 9, 0);
    }

    /** "WEIGHT drifting": 1 at least, 400 at most, on these days too. */
    private static void outWithinBounds() {
        dueOut(50, 60, -9, 49, -6);
        dueOut(50, 60, -9, 48, 7);
        dueOut(1, 5, -9, 4, -6);
        dueOut(1, 5, -9, 3, 0);
        dueOut(200, 201, 9, 99, 11);
    }

    /** "COLDS as they are" */
    private static void outWithCold() {
        SwornPounds x = one(100, 100, 0);
        Due.sayAnew(x, "^A").done();
        x.limit(10);
        d.due("14: 90 for 100", x.out(0), -6);
        x.limit(9);
        d.due("14: 90 for 100, now", x.out(0), 0);
        SwornPounds y = one(90, 100, 1);
        Due.sayAnew(y, "^A").done();
        // 106 weighs 96, 105 weighs 95
        d.due("14: he has it on all days", y.out(0), 6);
    }

    /** "the first day from now on" */
    private static void outFromNowOn() {
        SwornPounds x = one(14, 14, 1);
        for (int day = 0; day <= 7; day++) {
            d.due("14: on day " + day, x.out(0), Math.max(0, 6 - day));
            Due.sayAnew(x, ".").done();
        }
        d.due("14: nothing passes", x.told(4), 8);
        d.due("14: unknown", x.out(1), -1);
    }

    private static void dueEven(int one, int itsDrift, int two, int other, int want) {
        SwornPounds x = one(7, one, itsDrift);
        x.person(5, 9, two, other);
        String call = "15: even of " + one + " by " + itsDrift + " and " + two + " by " + other;
        d.due(call, x.even(0, 5), want);
        d.due(call + ", turned", x.even(5, 0), want);
    }

    /** "the first day (likewise) on which two WEIGH alike; NONE": 0 is now. */
    private static void evenNow() {
        dueEven(10, 3, 10, -3, 0);
        dueEven(10, 0, 11, 0, -6);
        dueEven(10, 1, 11, 0, 1);
        dueEven(10, 1, 12, -1, 1);
        // they pass one another
        dueEven(10, 2, 11, 0, -6);
        dueEven(10, 1, 11, -1, -6);
    }

    /** "(likewise)": 99 days on at the most. */
    private static void evenOnTheLastDay() {
        dueEven(100, 1, 198, 0, 98);
        dueEven(100, 1, 199, 0, 99);
        dueEven(100, 1, 200, 0, -6);
        dueEven(300, -2, 102, 0, 99);
        dueEven(300, -2, 100, 0, -6);
    }

    /** "1 at least, 400 at most", on these days too. */
    private static void evenWithinBounds() {
        dueEven(399, 9, 400, 0, 1);
        dueEven(390, 9, 400, 9, 2);
        dueEven(2, -9, 1, 0, 1);
        dueEven(12, -9, 20, -9, 3);
        dueEven(301, 1, 400, 9, 99);
        dueEven(300, 1, 400, 9, -6);
    }

    /** "two WEIGH alike", COLDS as they are. */
    private static void evenWithColds() {
        SwornPounds x = one(7, 20, 0);
        x.person(1, 7, 18, 0);
        x.person(2, 7, 20, 0);
        x.person(3, 7, 17, 1);
        d.due("15: 20 and 18", x.even(0, 1), -6);
        Due.sayAnew(x, "^A").done();
        d.due("15: 20 with a cold and 18", x.even(0, 1), 0);
        d.due("15: 20 with a cold and 20", x.even(0, 2), -6);
        d.due("15: 20 with a cold and 17", x.even(0, 3), 1);
        Due.sayAnew(x, "^C").done();
        d.due("15: both with a cold", x.even(0, 2), 0);
    }

    /** "UNKNOWN: both, also one." */
    private static void evenOfBoth() {
        SwornPounds x = town();
        d.due("15: the first", x.even(4, 0), -1);
        d.due("15: the second", x.even(0, 4), -1);
        d.due("15: both", x.even(4, 5), -1);
        for (int p = 0; p < 8; p++) {
            d.due("15: both are one", x.even(p, p), -1);
        }
        d.due("15: married ones", x.even(2, 3), -6);
    }
}
