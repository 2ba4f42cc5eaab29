/** Promises 1 to 8: a new object, person, leave, marry, limit, say, wipe, fault. */
final class PersonsTest {
    private static final int MIN = Integer.MIN_VALUE, MAX = Integer.MAX_VALUE;
    private static final Due d = new Due();

    public static void main(String[] args) {
        aNewObject();
        person();
        personAnew();
        leave();
        marry();
        divorce();
        limit();
        say();
        wipe();
        fault();
        d.end();
    }

    private static void aNewObject() {
        SwornPounds x = new SwornPounds();
        int[] due = {0, 0, 0, 5, 0, 0};
        for (int what = 0; what < due.length; what++) {
            d.due("1: told(" + what + ")", x.told(what), due[what]);
        }
        for (int p = 0; p < 8; p++) {
            d.due("1: weighs(" + p + ")", x.weighs(p), -1);
        }
        d.due("1: fault()", x.fault(), -6);
        d.due("1: restore(0)", x.restore(0), -3);
        d.due("1: restore(1)", x.restore(1), -3);
    }

    private static void person() {
        SwornPounds x = new SwornPounds();
        d.due("2: least", x.person(0, 1, 1, -9), 1);
        d.due("2: most", x.person(7, 200, 400, 9), 2);
        d.due("2: told(1)", x.told(1), 129);
        d.due("2: told(10)", x.told(10), 1);
        d.due("2: told(11)", x.told(11), 1);
        d.due("2: told(12)", x.told(12), 0);
        d.due("2: told(80)", x.told(80), 200);
        d.due("2: told(81)", x.told(81), 400);
        d.due("2: told(82)", x.told(82), 18);
        for (int p : new int[] {-1, 8, MIN, MAX}) {
            d.due("2: no number", x.person(p, 10, 10, 0), -1);
            d.due("2: no number comes first", x.person(p, 0, 0, 10), -1);
        }
        int[][] outside = {{0, 9, 0}, {201, 9, 0}, {MIN, 9, 0}, {9, 0, 0}, {9, 401, 0}, {9, MAX, 0}, {9, 9, -10}, {9, 9, 10}};
        for (int[] o : outside) {
            d.due("2: outside", x.person(3, o[0], o[1], o[2]), -2);
        }
        d.due("2: refused, nobody more", x.told(1), 129);
        for (int p = 0; p < 8; p++) {
            x.person(p, 10, 10, 0);
        }
        d.due("2: all eight", x.person(4, 1, 2, 3), 8);
    }

    private static void personAnew() {
        SwornPounds x = new SwornPounds();
        x.person(0, 10, 100, 1);
        x.person(1, 10, 100, 1);
        x.marry(0, 1, true);
        Due.sayAnew(x, "^A^B").done();
        d.due("2: with a cold", x.weighs(0), 90);
        d.due("2: anew", x.person(0, 20, 50, -2), 2);
        d.due("2: no cold", x.told(2), 2);
        d.due("2: weighs", x.weighs(0), 50);
        d.due("2: sworn", x.told(10), 20);
        d.due("2: drift", x.told(12), 7);
        d.due("2: married as he was", x.told(13), 1);
        d.due("2: so is the other", x.told(23), 0);
    }

    private static void leave() {
        SwornPounds x = new SwornPounds();
        for (int p : new int[] {-1, 0, 7, 8, MIN, MAX}) {
            d.due("3: nobody", x.leave(p), -1);
        }
        x.person(0, 10, 10, 0);
        x.person(1, 20, 20, 0);
        x.person(2, 30, 30, 0);
        x.marry(0, 1, true);
        Due.sayAnew(x, "^A^C").done();
        d.due("3: leave(0)", x.leave(0), 2);
        d.due("3: again", x.leave(0), -1);
        d.due("3: persons", x.told(1), 6);
        d.due("3: colds", x.told(2), 4);
        d.due("3: the other is free", x.told(23), -6);
        d.due("3: and may marry", x.marry(1, 2, true), 1);
        d.due("3: back", x.person(0, 10, 10, 0), 3);
        d.due("3: unmarried", x.told(13), -6);
        d.due("3: without a cold", x.told(2), 4);
    }

    private static SwornPounds five() {
        SwornPounds x = new SwornPounds();
        for (int p = 0; p < 5; p++) {
            x.person(p, 10 + p, 10 + p, 0);
        }
        return x;
    }

    private static void marry() {
        SwornPounds x = five();
        d.due("4: marry(0, 3)", x.marry(0, 3, true), 1);
        d.due("4: already", x.marry(0, 3, true), 1);
        d.due("4: already, turned", x.marry(3, 0, true), 1);
        d.due("4: a second marriage", x.marry(4, 1, true), 2);
        d.due("4: to whom 0", x.told(13), 3);
        d.due("4: to whom 1", x.told(23), 4);
        d.due("4: to whom 2", x.told(33), -6);
        d.due("4: to whom 3", x.told(43), 0);
        d.due("4: the first is taken", x.marry(0, 2, true), -3);
        d.due("4: the second is taken", x.marry(2, 0, true), -3);
        d.due("4: both are taken", x.marry(0, 1, true), -3);
        for (int p : new int[] {-1, 5, 7, 8, MIN, MAX}) {
            d.due("4: no such first", x.marry(p, 0, true), -1);
            d.due("4: no such second", x.marry(2, p, true), -1);
            d.due("4: neither", x.marry(p, p, false), -1);
        }
        d.due("4: both are one", x.marry(2, 2, true), -1);
        d.due("4: both are one, not", x.marry(2, 2, false), -1);
        d.due("4: refused, as it was", x.told(33), -6);
    }

    private static void divorce() {
        SwornPounds x = five();
        x.marry(0, 3, true);
        x.marry(1, 4, true);
        d.due("4: not married", x.marry(2, 0, false), -3);
        d.due("4: not to this one", x.marry(0, 1, false), -3);
        d.due("4: divorced, turned", x.marry(3, 0, false), 1);
        d.due("4: 0 is free", x.told(13), -6);
        d.due("4: 3 is free", x.told(43), -6);
        d.due("4: divorced already", x.marry(0, 3, false), -3);
        d.due("4: the other one", x.marry(1, 4, false), 0);
    }

    private static void limit() {
        SwornPounds x = new SwornPounds();
        d.due("5: limit(0)", x.limit(0), 5);
        d.due("5: limit(99)", x.limit(99), 0);
        for (int v : new int[] {-1, 100, MIN, MAX}) {
            d.due("5: outside", x.limit(v), -2);
        }
        d.due("5: refused, as it was", x.told(3), 99);
    }

    private static void say() {
        SwornPounds x = new SwornPounds();
        for (int sign : new int[] {32, 127, -1, 0, MIN, MAX}) {
            d.due("6: outside", x.say(sign), -2);
        }
        d.due("6: the first sign", x.say(33), 1);
        d.due("6: the last sign", x.say(126), 2);
        for (int n = 3; n <= 60; n++) {
            d.due("6: one more", x.say('.'), n);
        }
        d.due("6: full", x.say('.'), -4);
        d.due("6: full, outside", x.say(127), -2);
        d.due("6: told(0)", x.told(0), 60);
    }

    private static void wipe() {
        SwornPounds x = new SwornPounds();
        d.due("7: none", x.wipe(), 0);
        Due.sayAnew(x, "?..");
        d.due("7: three", x.wipe(), 3);
        d.due("7: gone", x.told(0), 0);
        d.due("7: no fault", x.fault(), -6);
        d.due("7: from the start again", x.say('.'), 1);
        d.due("7: no fault of the old ones", x.fault(), -6);
    }

    private static void fault() {
        String[] sound = {"", ".", "*", "^A", "^H", "|A;", "A|B;", "ABCDEFGH|A;", "|AA;", "A|A;", ".*^A|B;A|BC;..", "^A^A"};
        for (String text : sound) {
            d.due("8: fault() of " + text, Due.sayAnew(new SwornPounds(), text).fault(), -6);
        }
        dueFault("A", 1);
        dueFault("AB", 2);
        dueFault("A|", 2);
        dueFault("|", 1);
        dueFault("|A", 2);
        dueFault("^", 1);
        dueFault("..^", 3);
        dueFault("A;", 1);
        dueFault("|;", 1);
        dueFault(";", 0);
        dueFault("A||", 2);
        dueFault("|A|", 2);
        dueFault("|A.", 2);
        dueFault("A.", 1);
        dueFault("A^", 1);
        dueFault("^.", 1);
        dueFault("^^A", 1);
        dueFault("I", 0);
        dueFault("@", 0);
        dueFault("a", 0);
        dueFault("|I;", 1);
        dueFault("|AI;", 2);
        dueFault("^I", 1);
        dueFault("AI", 1);
        dueFault(".!?", 1);
        dueFault("|A;;", 3);
        dueFault("...................................................*......./", 59);
        dueFault("...................................................*.......A", 60);
    }

    private static void dueFault(String text, int want) {
        d.due("8: fault() of " + text, Due.sayAnew(new SwornPounds(), text).fault(), want);
    }
}
