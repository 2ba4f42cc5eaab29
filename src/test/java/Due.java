/** Counts the calls whose answer is not the one that is due, and prints them. */
final class Due {
    private int checked = 0;
    private int wrong = 0;

    void due(String call, long got, long want) {
        checked++;
        if (got != want) {
            wrong++;
            System.out.println(call + " answered " + got + ", due is " + want);
        }
    }

    /** Says a text anew, sign by sign. */
    static SwornPounds sayAnew(SwornPounds x, String text) {
        x.wipe();
        for (int i = 0; i < text.length(); i++) {
            x.say(text.charAt(i));
        }
        return x;
    }

    void end() {
        System.out.println(checked + " answers, " + wrong + " not as due");
        if (checked == 0 || wrong != 0) {
            System.exit(1);
        }
    }
}
