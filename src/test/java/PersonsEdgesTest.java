/** The boundaries that 'Terms', part 1, and the promises 1 to 8 name: one method for each sentence. */
final class PersonsEdgesTest {
    private static final int MIN = Integer.MIN_VALUE, MAX = Integer.MAX_VALUE;
    private static final Due d = new Due();

    public static void main(String[] args) {
        use();
        numbers();
        noneAtFirst();
        sworn();
        weight();
        drift();
        cold();
        marriedToTwo();
        tenthLess();
        day();
        dayZero();
        feast();
        sixtySigns();
        codes();
        everySignInEveryPlace();
        byTheGoods();
        oneAtLeast();
        firstSign();
        moreMustCome();
        emptyPad();
        personAnew();
        leave();
        marry();
        limit();
        wipe();
        d.end();
    }

    private static SwornPounds town(int persons) {
        SwornPounds x = new SwornPounds();
        for (int p = 0; p < persons; p++) {
            x.person(p, 10, 100, 0);
        }
        return x;
    }

    /** "An object is used for at most 512 calls after it has been made" */
    private static void use() {
        SwornPounds x = new SwornPounds();
        x.person(0, 1, 1, 1);
        for (int n = 1; n <= 255; n++) {
            x.say('.');
            x.done();
        }
        d.due("31: the 512th call", x.told(11), 256);
        SwornPounds y = new SwornPounds();
        for (int n = 1; n <= 8; n++) {
            Due.sayAnew(y, ".".repeat(60));
            y.done();
        }
        d.due("31: so many days", y.told(4), 480);
    }

    /** "PERSONS 0 to 7 (A to H)" */
    private static void numbers() {
        for (int p = 0; p < 8; p++) {
            SwornPounds x = new SwornPounds();
            d.due("2: person(" + p + ")", x.person(p, 10 + p, 20 + p, 0), 1);
            d.due("2: told(1) with " + p, x.told(1), 1 << p);
            Due.sayAnew(x, "|" + (char) ('A' + p) + ";");
            d.due("9: its letter", x.judge(3), 10 + p);
            d.due("9: what the goods were", x.judge(4), 20 + p);
        }
        for (int p : new int[] {-1, 8, 9, 32, 39, MIN, MAX}) {
            d.due("2: person(" + p + ")", town(3).person(p, 10, 10, 0), -1);
        }
    }

    /** "some of whom there are (none at first)"; "Nobody is there, day 0." */
    private static void noneAtFirst() {
        for (int p = 0; p < 8; p++) {
            SwornPounds x = new SwornPounds();
            d.due("1: leave", x.leave(p), -1);
            d.due("1: marry", x.marry(p, 7 - p, true), -1);
            d.due("1: weighs", x.weighs(p), -1);
            d.due("1: behind", x.behind(p, 0), -1);
            d.due("1: air", x.air(p), -1);
            d.due("1: price", x.price(10, 1 << p, 0), -1);
            d.due("1: told", x.told(10 * (1 + p)), -2);
            Due.sayAnew(x, "^" + (char) ('A' + p));
            d.due("1: why there is no such cold", x.judge(1), 1);
        }
        int[] due = {0, 0, 0, 5, 0, 0};
        for (int what = 0; what < due.length; what++) {
            d.due("1: told(" + what + ")", new SwornPounds().told(what), due[what]);
        }
    }

    private static void duePerson(int sworn, int weight, int drift, int want) {
        String call = "2: person(0, " + sworn + ", " + weight + ", " + drift + ")";
        d.due(call, new SwornPounds().person(0, sworn, weight, drift), want);
        d.due(call + ", anew", town(3).person(0, sworn, weight, drift), want == 1 ? 3 : want);
    }

    /** "SWORN to so many pounds (1 to 200)" */
    private static void sworn() {
        for (int s : new int[] {1, 2, 199, 200}) {
            duePerson(s, 10, 0, 1);
        }
        for (int s : new int[] {0, 201, -1, 400, MIN, MAX}) {
            duePerson(s, 10, 0, -2);
        }
    }

    /** "WEIGHT (1 to 400)" */
    private static void weight() {
        for (int w : new int[] {1, 2, 201, 399, 400}) {
            duePerson(10, w, 0, 1);
        }
        for (int w : new int[] {0, 401, -1, MIN, MAX}) {
            duePerson(10, w, 0, -2);
        }
    }

    /** "DRIFT (-9 to 9: so much more each day)" */
    private static void drift() {
        for (int n = -9; n <= 9; n++) {
            duePerson(10, 10, n, 1);
            SwornPounds x = new SwornPounds();
            x.person(0, 10, 100, n);
            d.due("31: drift and 9", x.told(12), n + 9);
            Due.sayAnew(x, ".").done();
            d.due("11: so much more each day", x.told(11), 100 + n);
        }
        for (int n : new int[] {-10, 10, MIN, MAX}) {
            duePerson(10, 10, n, -2);
        }
    }

    /** "a COLD or none"; "^ and a letter (that one has a COLD, or has none more)" */
    private static void cold() {
        SwornPounds x = town(8);
        d.due("31: none at first", x.told(2), 0);
        int colds = 0;
        for (int p = 7; p >= 0; p--) {
            Due.sayAnew(x, "^" + (char) ('A' + p)).done();
            colds |= 1 << p;
            d.due("31: one more", x.told(2), colds);
        }
        for (int p = 0; p < 8; p++) {
            Due.sayAnew(x, "^" + (char) ('A' + p)).done();
            colds &= ~(1 << p);
            d.due("31: one has none more", x.told(2), colds);
        }
    }

    /** "Two may be MARRIED (nobody to two)" */
    private static void marriedToTwo() {
        SwornPounds x = town(3);
        x.marry(0, 1, true);
        d.due("4: A to two", x.marry(0, 2, true), -3);
        d.due("4: B to two", x.marry(1, 2, true), -3);
        d.due("4: two to A", x.marry(2, 0, true), -3);
        d.due("4: two to B", x.marry(2, 1, true), -3);
        x.marry(0, 1, false);
        d.due("4: when he is free", x.marry(0, 2, true), 1);
    }

    /** "What one WEIGHS: WEIGHT, a tenth of it (cut) less with a COLD." */
    private static void tenthLess() {
        int[][] rows = {{1, 1}, {9, 9}, {10, 9}, {11, 10}, {19, 18}, {20, 18}, {29, 27}, {390, 351}, {399, 360}, {400, 360}};
        for (int[] row : rows) {
            SwornPounds x = new SwornPounds();
            x.person(0, 10, row[0], 0);
            d.due("12: without a cold", x.weighs(0), row[0]);
            Due.sayAnew(x, "^A").done();
            d.due("12: of " + row[0] + " with a cold", x.weighs(0), row[1]);
            d.due("31: the weight stays", x.told(11), row[0]);
        }
    }

    /** "A day: each one's WEIGHT is DRIFT more (1 at least, 400 at most)." */
    private static void day() {
        int[][] rows = {
            {1, -9, 1}, {1, -1, 1}, {1, 0, 1}, {2, -1, 1}, {2, -2, 1}, {9, -9, 1}, {10, -9, 1}, {11, -9, 2}, {1, 9, 10},
            {390, 9, 399}, {391, 9, 400}, {392, 9, 400}, {399, 1, 400}, {400, 1, 400}, {400, 9, 400}, {400, 0, 400}, {400, -9, 391}
        };
        for (int[] row : rows) {
            SwornPounds x = new SwornPounds();
            x.person(6, 10, row[0], row[1]);
            Due.sayAnew(x, ".");
            d.due("10: a day of " + row[0] + ", " + row[1], x.behind(6, 1), row[2]);
            x.done();
            d.due("11: a day of " + row[0] + ", " + row[1], x.told(71), row[2]);
        }
        SwornPounds x = new SwornPounds();
        for (int p = 0; p < 8; p++) {
            x.person(p, 10, 100 + p, p - 4);
        }
        // with a cold the whole weight drifts
        Due.sayAnew(x, "^D^E..").done();
        for (int p = 0; p < 8; p++) {
            d.due("11: each one's", x.told(10 * (1 + p) + 1), 100 + p + 2 * (p - 4));
        }
    }

    /** "It is day 0 at first." */
    private static void dayZero() {
        SwornPounds x = town(1);
        d.due("31: day 0", x.told(4), 0);
        d.due("10: day 0", x.behind(0, 2), 0);
        Due.sayAnew(x, ".").done();
        d.due("31: day 1", x.told(4), 1);
        Due.sayAnew(x, "*^A|A;").done();
        d.due("31: no other act is a day", x.told(4), 1);
    }

    /** "A feast: each one's WEIGHT is 5 more (400 at most)." */
    private static void feast() {
        int[][] rows = {{1, 6}, {2, 7}, {394, 399}, {395, 400}, {396, 400}, {399, 400}, {400, 400}};
        for (int[] row : rows) {
            for (int drift : new int[] {-9, 0, 9}) {
                SwornPounds x = new SwornPounds();
                x.person(6, 10, row[0], drift);
                Due.sayAnew(x, "*");
                d.due("10: a feast of " + row[0], x.behind(6, 1), row[1]);
                x.done();
                d.due("11: a feast of " + row[0], x.told(71), row[1]);
            }
        }
        SwornPounds x = town(8);
        Due.sayAnew(x, "^C**").done();
        for (int p = 0; p < 8; p++) {
            d.due("11: each one's", x.told(10 * (1 + p) + 1), 110);
        }
    }

    /** "a text on a PAD of up to 60 signs"; "A sign more: how many. ... FULL." */
    private static void sixtySigns() {
        SwornPounds x = new SwornPounds();
        for (int n = 1; n <= 60; n++) {
            d.due("6: one more", x.say(n < 60 ? '.' : '*'), n);
        }
        d.due("6: a 61st", x.say('.'), -4);
        d.due("6: and again", x.say('?'), -4);
        d.due("31: sixty", x.told(0), 60);
        d.due("8: no fault", x.fault(), -6);
        d.due("9: all are judged", x.judge(0), -6);
        d.due("11: all are done", x.done(), 60);
        d.due("11: the days", x.told(4), 59);
        d.due("6: the pad is empty again", x.say('.'), 1);
    }

    /** "signs (codes 33 to 126)" */
    private static void codes() {
        for (int from : new int[] {33, 80}) {
            SwornPounds x = new SwornPounds();
            for (int sign = from; sign < from + 47; sign++) {
                d.due("6: say(" + sign + ")", x.say(sign), sign - from + 1);
            }
        }
        for (int sign : new int[] {32, 127, 31, 128, 10, 0, -1, 33 + 256, 46 + 65536, MIN, MAX}) {
            SwornPounds x = new SwornPounds();
            d.due("6: say(" + sign + ")", x.say(sign), -2);
            d.due("6: no sign more", x.told(0), 0);
        }
    }

    /** "ACTS: a sale: PERSONS' letters ..., |, letters ..., ; . Or . (a day), * (a feast), or ^ and a letter" */
    private static void everySignInEveryPlace() {
        String letters = "ABCDEFGH";
        dueSigns("", letters + ".*^|", ".*");
        dueSigns("A", letters + "|", "");
        dueSigns("HB", letters + "|", "");
        dueSigns("|", letters, "");
        dueSigns("H|", letters, "");
        dueSigns("|A", letters + ";", ";");
        dueSigns("A|AH", letters + ";", ";");
        dueSigns("^", letters, letters);
        dueSigns("^A", letters + ".*^|", ".*");
        dueSigns("|A;", letters + ".*^|", ".*");
        dueSigns(".", letters + ".*^|", ".*");
        dueSigns("*", letters + ".*^|", ".*");
    }

    /** Which signs can stand behind a text, and which of these end an ACT. */
    private static void dueSigns(String text, String can, String end) {
        for (char sign = 33; sign <= 126; sign++) {
            SwornPounds x = Due.sayAnew(new SwornPounds(), text + sign);
            int want = can.indexOf(sign) < 0 ? text.length() : end.indexOf(sign) < 0 ? text.length() + 1 : -6;
            d.due("8: fault() of " + text + sign, x.fault(), want);
        }
    }

    private static void dueFault(String text, int want) {
        d.due("8: fault() of " + text, Due.sayAnew(new SwornPounds(), text).fault(), want);
    }

    /** "PERSONS' letters (none, or some: they sit by the goods)" */
    private static void byTheGoods() {
        dueFault("|A;", -6);
        dueFault("B|A;", -6);
        dueFault("BCDEFGH|A;", -6);
        SwornPounds x = town(2);
        x.person(2, 35, 350, 0);
        Due.sayAnew(x, "|C;");
        d.due("9: nobody by them", x.judge(3), 35);
        Due.sayAnew(x, "B|C;");
        d.due("9: one by them", x.judge(3), 25);
        Due.sayAnew(x, "AB|C;");
        d.due("9: two by them", x.judge(3), 15);
        d.due("9: what those weigh less what these do", x.judge(4), 150);
    }

    /** "letters (one at least: across from them)" */
    private static void oneAtLeast() {
        dueFault("|;", 1);
        dueFault("A|;", 2);
        dueFault(".AB|;", 4);
        dueFault("|A;|;", 4);
        dueFault("A|B;", -6);
    }

    /** "THE FAULT: the place (from 0 on) of the first sign that can not stand there" */
    private static void firstSign() {
        dueFault("?", 0);
        dueFault("??", 0);
        dueFault("|A;?!A", 3);
        dueFault("A.|A;", 1);
        dueFault("|A;;|B;", 3);
        dueFault("^A;", 2);
        dueFault("@", 0);
        dueFault("I", 0);
        dueFault("A@|", 1);
        dueFault("AI|", 1);
        dueFault("|@", 1);
        dueFault("|I", 1);
        dueFault("^@", 1);
        dueFault("^I", 1);
        dueFault("a", 0);
        dueFault(".".repeat(59) + ";", 59);
        dueFault(";" + ".".repeat(59), 0);
    }

    /** "or the number of signs, if more must come" */
    private static void moreMustCome() {
        dueFault("A", 1);
        dueFault("|", 1);
        dueFault("^", 1);
        dueFault("|A", 2);
        dueFault("A|", 2);
        dueFault("ABCDEFGH", 8);
        dueFault(".*^A|", 5);
        dueFault(".".repeat(59) + "A", 60);
        dueFault(".".repeat(59) + "^", 60);
        dueFault(".".repeat(58) + "|A", 60);
        dueFault(".".repeat(57) + "|A;", -6);
        dueFault("A".repeat(60), 60);
    }

    /** "(an empty PAD has no FAULT: no ACTS)" */
    private static void emptyPad() {
        SwornPounds x = town(2);
        d.due("8: at first", x.fault(), -6);
        d.due("9: no act that can not be", x.judge(0), -6);
        d.due("9: no sales", x.judge(2), 0);
        d.due("11: no acts", x.done(), 0);
        Due.sayAnew(x, "?").wipe();
        d.due("8: wiped", x.fault(), -6);
        Due.sayAnew(x, ".").done();
        d.due("8: when it is done", x.fault(), -6);
        d.due("11: no acts more", x.done(), 0);
        d.due("11: one day has passed", x.told(4), 1);
    }

    /** "A PERSON is there (or anew: SWORN, WEIGHT, DRIFT; no COLD; MARRIED as he was): how many are." */
    private static void personAnew() {
        for (int p = 0; p < 8; p++) {
            SwornPounds x = town(8);
            int other = p ^ 1;
            x.marry(p, other, true);
            Due.sayAnew(x, "^A^B^C^D^E^F^G^H").done();
            d.due("2: as many", x.person(p, 20, 50, -2), 8);
            d.due("2: no cold", x.told(2), 255 & ~(1 << p));
            d.due("2: sworn", x.told(10 * (1 + p)), 20);
            d.due("2: weight", x.told(10 * (1 + p) + 1), 50);
            d.due("2: drift", x.told(10 * (1 + p) + 2), 7);
            d.due("2: married as he was", x.told(10 * (1 + p) + 3), other);
            d.due("2: the other, too", x.told(10 * (1 + other) + 3), p);
            d.due("2: the other's weight stays", x.told(10 * (1 + other) + 1), 100);
            d.due("2: one marriage", x.marry(p, other, true), 1);
        }
    }

    /** "A PERSON is no more (who was MARRIED to him is not): how many are. UNKNOWN: there was none." */
    private static void leave() {
        for (int p = 0; p < 8; p++) {
            SwornPounds x = town(8);
            int other = p ^ 1;
            x.marry(other, p, true);
            Due.sayAnew(x, "^A^B^C^D^E^F^G^H").done();
            d.due("3: one less", x.leave(p), 7);
            d.due("3: who is there", x.told(1), 255 & ~(1 << p));
            d.due("3: colds", x.told(2), 255 & ~(1 << p));
            d.due("3: the other is free", x.told(10 * (1 + other) + 3), -6);
            d.due("3: there was none", x.leave(p), -1);
            d.due("3: back", x.person(p, 10, 10, 0), 8);
            d.due("3: back without a cold", x.told(2), 255 & ~(1 << p));
            d.due("3: back and free", x.told(10 * (1 + p) + 3), -6);
        }
        SwornPounds x = town(8);
        for (int p = 0; p < 8; p++) {
            d.due("3: how many are", x.leave(p), 7 - p);
        }
        d.due("3: nobody", x.told(1), 0);
        d.due("3: of nobody", x.leave(7), -1);
    }

    /** "Two are MARRIED (is true; they may be MARRIED already), or not: how many marriages there are." */
    private static void marry() {
        SwornPounds x = town(8);
        for (int p = 0; p < 4; p++) {
            d.due("4: one more", x.marry(p, 7 - p, true), p + 1);
            d.due("4: already", x.marry(p, 7 - p, true), p + 1);
            d.due("4: already, turned", x.marry(7 - p, p, true), p + 1);
        }
        d.due("4: with himself", x.marry(3, 3, true), -1);
        d.due("4: all are taken", x.marry(0, 1, true), -3);
        x.leave(2);
        d.due("4: a marriage went with him", x.marry(0, 7, true), 3);
        d.due("4: not", x.marry(7, 0, false), 2);
        d.due("4: not any more", x.marry(0, 7, false), -3);
        d.due("4: not, the second", x.marry(1, 6, false), 1);
        d.due("4: not, the last", x.marry(3, 4, false), 0);
        d.due("4: who is left", x.marry(5, 2, true), -1);
    }

    /** "LIMIT (0 to 99; 5 at first)"; "LIMIT: which it was. OUTSIDE." */
    private static void limit() {
        SwornPounds x = new SwornPounds();
        d.due("31: 5 at first", x.told(3), 5);
        d.due("5: limit(0)", x.limit(0), 5);
        d.due("5: limit(-1)", x.limit(-1), -2);
        d.due("5: limit(99)", x.limit(99), 0);
        d.due("5: limit(100)", x.limit(100), -2);
        d.due("5: limit(98)", x.limit(98), 99);
        d.due("5: limit(1)", x.limit(1), 98);
        d.due("31: as it is", x.told(3), 1);
        d.due("5: limit(MIN)", x.limit(MIN), -2);
        d.due("5: limit(MAX)", x.limit(MAX), -2);
        d.due("5: the same", x.limit(1), 1);
    }

    /** "Signs go: how many there were." */
    private static void wipe() {
        SwornPounds x = new SwornPounds();
        d.due("7: none", x.wipe(), 0);
        for (int n : new int[] {1, 2, 59, 60}) {
            Due.sayAnew(x, "?".repeat(n));
            d.due("7: there were " + n, x.wipe(), n);
            d.due("7: they are gone", x.told(0), 0);
            d.due("7: none more", x.wipe(), 0);
        }
    }
}
