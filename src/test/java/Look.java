/** All that can be asked of a town, as one text: two that look the same stand the same. Some 125 calls. */
final class Look {
    private Look() {
    }

    static String at(SwornPounds x) {
        StringBuilder s = new StringBuilder();
        for (int what = 0; what <= 5; what++) {
            s.append(x.told(what)).append(' ').append(x.judge(what)).append(' ');
        }
        for (int p = 0; p < 8; p++) {
            for (int what = 0; what <= 3; what++) {
                s.append(x.told(10 * (1 + p) + what)).append(' ');
            }
            for (int what = 0; what <= 2; what++) {
                s.append(x.behind(p, what)).append(' ');
            }
            s.append(x.weighs(p)).append(' ').append(x.out(p)).append(' ').append(x.air(p)).append(' ');
        }
        s.append(x.fault()).append(' ').append(x.airs(0)).append(' ').append(x.airs(1)).append(' ').append(x.cross(0));
        return s.toString();
    }

    /** What is kept in both IMAGES, too; the town is another one afterwards. Some 375 calls. */
    static String atAll(SwornPounds x) {
        StringBuilder s = new StringBuilder(at(x));
        s.append(" image 0: ").append(x.restore(0)).append(' ').append(at(x));
        s.append(" image 1: ").append(x.restore(1)).append(' ').append(at(x));
        return s.toString();
    }
}
