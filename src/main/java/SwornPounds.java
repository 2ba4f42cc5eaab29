import java.util.Arrays;

/** The town whose weights are sworn persons; ../shared/DOC.md tells what each call answers. */
public final class SwornPounds {
    public static final int UNKNOWN = -1, OUTSIDE = -2, STATE = -3, FULL = -4, NO = -5, NONE = -6;
    public static final long GONE = -1000000000000000000L;

    private static final int PERSONS = 8, SETS = 256, IMAGES = 2;
    private static final int MOST_SWORN = 200, HEAVIEST = 400, MOST_DRIFT = 9;
    private static final int FIRST_LIMIT = 5, MOST_LIMIT = 99, DAYS = 100;
    private static final int MOST_SIGNS = 60, FIRST_SIGN = 33, LAST_SIGN = 126;
    private static final int MOST_SIGHTS = 8, MOST_POUNDS = 999;
    private static final int FINE = 0;

    private final Town town;
    private final Town[] images;
    private final boolean[] kept;
    private final Pad pad;
    private final Market market;
    private final Pans pans;
    private final Worlds worlds;
    private final Fraction fraction;
    private final Year years;

    public SwornPounds() {
        town = new Town();
        images = new Town[IMAGES];
        for (int k = 0; k < IMAGES; k++) {
            images[k] = new Town();
        }
        kept = new boolean[IMAGES];
        pad = new Pad();
        market = new Market();
        pans = new Pans();
        worlds = new Worlds();
        fraction = new Fraction();
        years = new Year();
    }

    // ---- 1 persons

    public int person(int person, int sworn, int weight, int drift) {
        if (!within(person, 0, PERSONS - 1)) {
            return UNKNOWN;
        }
        if (!within(sworn, 1, MOST_SWORN) || !within(weight, 1, HEAVIEST) || !within(drift, -MOST_DRIFT, MOST_DRIFT)) {
            return OUTSIDE;
        }
        town.settle(person, sworn, weight, drift);
        return town.headcount();
    }

    public int leave(int person) {
        if (!town.has(person)) {
            return UNKNOWN;
        }
        town.remove(person);
        return town.headcount();
    }

    public int marry(int person, int other, boolean is) {
        if (!town.hasTwo(person, other)) {
            return UNKNOWN;
        }
        if (is ? !town.mayMarry(person, other) : !town.areMarried(person, other)) {
            return STATE;
        }
        if (is) {
            town.join(person, other);
        } else {
            town.part(person);
        }
        return town.marriages();
    }

    public int limit(int v) {
        if (!within(v, 0, MOST_LIMIT)) {
            return OUTSIDE;
        }
        int was = town.limit;
        town.limit = v;
        return was;
    }

    public int say(int sign) {
        if (!within(sign, FIRST_SIGN, LAST_SIGN)) {
            return OUTSIDE;
        }
        return pad.add(sign) ? pad.count : FULL;
    }

    public int wipe() {
        int were = pad.count;
        pad.count = 0;
        return were;
    }

    public int fault() {
        return pad.firstFault();
    }

    // ---- 2 markets

    public int judge(int what) {
        if (!within(what, 0, 5)) {
            return OUTSIDE;
        }
        int refusal = holdMarket();
        if (refusal == NO || (refusal == STATE && what >= 2)) {
            return refusal;
        }
        return market.answer(what);
    }

    public int behind(int person, int what) {
        if (!town.has(person)) {
            return UNKNOWN;
        }
        if (!within(what, 0, 2)) {
            return OUTSIDE;
        }
        int refusal = holdMarket();
        if (refusal != FINE) {
            return refusal;
        }
        Town after = market.after;
        return what == 0 ? after.poundsOf(person) : what == 1 ? after.weight[person] : after.day;
    }

    public int done() {
        int refusal = holdMarket();
        if (refusal != FINE) {
            return refusal;
        }
        town.copyFrom(market.after);
        pad.count = 0;
        return market.acts;
    }

    public int weighs(int person) {
        return town.has(person) ? town.poundsOf(person) : UNKNOWN;
    }

    public int off(int person) {
        return town.has(person) ? town.poundsOf(person) - town.sworn[person] + 1000 : UNKNOWN;
    }

    public int out(int person) {
        return town.has(person) ? town.firstDayOff(person) : UNKNOWN;
    }

    public int even(int person, int other) {
        return town.hasTwo(person, other) ? town.firstDayAlike(person, other) : UNKNOWN;
    }

    // ---- 3 pans

    public int make(int v, boolean sworn, int what) {
        if (!within(v, 1, MOST_POUNDS) || !within(what, 0, 2)) {
            return OUTSIDE;
        }
        pans.seatAll(town, sworn, v);
        return what == 0 ? pans.fewest : what == 1 ? pans.bestFirst : pans.bestSecond;
    }

    public int near(int v, boolean sworn) {
        if (!within(v, 1, MOST_POUNDS)) {
            return OUTSIDE;
        }
        pans.seatAll(town, sworn, v);
        return pans.nearest;
    }

    public int gap(boolean sworn) {
        pans.seatAll(town, sworn, 1);
        return pans.leastUnmade();
    }

    public int assize(int i) {
        return i == -1 ? town.headcount() : town.ranked(i);
    }

    public int just() {
        return town.mostAlike();
    }

    public int price(int g, int set, int what) {
        if (!town.hasAll(set)) {
            return UNKNOWN;
        }
        if (!within(g, 1, MOST_POUNDS) || !within(what, 0, 1)) {
            return OUTSIDE;
        }
        if (!town.together(set)) {
            return STATE;
        }
        pans.sellDearest(town, g, set);
        return what == 0 ? pans.dearest : pans.dearestAcross;
    }

    // ---- 4 airs, chance

    public int seen(int first, int second, int how) {
        if (!town.mayBeWeighed(first, second)) {
            return UNKNOWN;
        }
        if (!within(how, 0, 2)) {
            return OUTSIDE;
        }
        return town.addSight(first, second, how) ? town.sights : FULL;
    }

    public int forget() {
        int were = town.sights;
        town.sights = 0;
        return were;
    }

    public int airs(int what) {
        if (!within(what, 0, 1)) {
            return OUTSIDE;
        }
        worlds.find(town);
        return what == 0 ? worlds.count : worlds.suspects();
    }

    public int air(int person) {
        if (!town.has(person)) {
            return UNKNOWN;
        }
        worlds.find(town);
        return worlds.leastMore(person);
    }

    public int cross(int what) {
        if (!within(what, 0, 1)) {
            return OUTSIDE;
        }
        worlds.find(town);
        worlds.choosePair(town);
        return what == 0 ? worlds.bestPair : worlds.bestLeft;
    }

    public long chance(int first, int second, int t, int k, int what, int part) {
        if (!town.mayBeWeighed(first, second)) {
            return GONE + UNKNOWN;
        }
        if (!within(t, 0, 10) || !within(k, 1, 50) || !within(what, 0, 1) || !within(part, 0, 1)) {
            return GONE + OUTSIDE;
        }
        if (what == 0) {
            fraction.setHeavier(town, first, second, t, k);
        } else {
            fraction.setMean(town, first, second, t, k);
        }
        return part == 0 ? fraction.upper : fraction.lower;
    }

    public int year(int seed, int m, int what) {
        if (!within(seed, 0, 9999) || !within(m, 1, 99) || !within(what, 0, 2)) {
            return OUTSIDE;
        }
        years.pass(town, seed, m);
        return what == 0 ? years.sold : what == 1 ? years.pounds : years.salesOff;
    }

    public int image(int k) {
        if (!within(k, 0, IMAGES - 1)) {
            return OUTSIDE;
        }
        images[k].copyFrom(town);
        kept[k] = true;
        return 1;
    }

    public int restore(int k) {
        if (!within(k, 0, IMAGES - 1)) {
            return OUTSIDE;
        }
        if (!kept[k]) {
            return STATE;
        }
        town.copyFrom(images[k]);
        return 1;
    }

    public int told(int what) {
        switch (what) {
            case 0: return pad.count;
            case 1: return town.there;
            case 2: return town.colds;
            case 3: return town.limit;
            case 4: return town.day;
            case 5: return town.sights;
            default: return what < 10 ? OUTSIDE : tellPerson(what / 10 - 1, what % 10);
        }
    }

    private int tellPerson(int person, int what) {
        if (!town.has(person)) {
            return OUTSIDE;
        }
        switch (what) {
            case 0: return town.sworn[person];
            case 1: return town.weight[person];
            case 2: return town.drift[person] + MOST_DRIFT;
            case 3: return town.spouse[person];
            default: return OUTSIDE;
        }
    }

    /** Holds the MARKET of the PAD beside the town; answers FINE, or why its figures can not be told. */
    private int holdMarket() {
        if (pad.firstFault() != NONE) {
            return NO;
        }
        market.hold(pad, town);
        return market.badAct == NONE ? FINE : STATE;
    }

    private static boolean within(int x, int least, int most) {
        return least <= x && x <= most;
    }

    private static boolean holds(int set, int person) {
        return person >= 0 && person < PERSONS && (set >> person & 1) == 1;
    }

    /** The subset of whole that follows set, by size as bits; after whole itself comes the empty one. */
    private static int nextSubset(int set, int whole) {
        return (set - whole) & whole;
    }

    private static int subsetsOf(int whole) {
        return 1 << Integer.bitCount(whole & (SETS - 1));
    }

    /** How a first pan stands to a second one, as SIGHTS tell it: 0 lighter, 1 as heavy, 2 heavier. */
    private static int balance(int first, int second) {
        return first < second ? 0 : first == second ? 1 : 2;
    }

    /** All that an IMAGE keeps. */
    private static final class Town {
        final int[] sworn = new int[PERSONS];
        final int[] weight = new int[PERSONS];
        final int[] drift = new int[PERSONS];
        final int[] spouse = new int[PERSONS];
        final int[] sightFirst = new int[MOST_SIGHTS];
        final int[] sightSecond = new int[MOST_SIGHTS];
        final int[] sightHow = new int[MOST_SIGHTS];
        int there;
        int colds;
        int limit = FIRST_LIMIT;
        int day;
        int sights;

        Town() {
            Arrays.fill(spouse, NONE);
        }

        void copyFrom(Town from) {
            System.arraycopy(from.sworn, 0, sworn, 0, PERSONS);
            System.arraycopy(from.weight, 0, weight, 0, PERSONS);
            System.arraycopy(from.drift, 0, drift, 0, PERSONS);
            System.arraycopy(from.spouse, 0, spouse, 0, PERSONS);
            System.arraycopy(from.sightFirst, 0, sightFirst, 0, MOST_SIGHTS);
            System.arraycopy(from.sightSecond, 0, sightSecond, 0, MOST_SIGHTS);
            System.arraycopy(from.sightHow, 0, sightHow, 0, MOST_SIGHTS);
            there = from.there;
            colds = from.colds;
            limit = from.limit;
            day = from.day;
            sights = from.sights;
        }

        // who is there

        boolean has(int person) {
            return person >= 0 && person < PERSONS && (there >> person & 1) == 1;
        }

        boolean hasTwo(int person, int other) {
            return has(person) && has(other) && person != other;
        }

        boolean hasAll(int set) {
            return (set & ~there) == 0;
        }

        int headcount() {
            return Integer.bitCount(there);
        }

        void settle(int person, int swornTo, int weighing, int drifting) {
            sworn[person] = swornTo;
            weight[person] = weighing;
            drift[person] = drifting;
            there |= 1 << person;
            colds &= ~(1 << person);
        }

        void remove(int person) {
            part(person);
            there &= ~(1 << person);
            colds &= ~(1 << person);
        }

        // marriages

        boolean areMarried(int person, int other) {
            return spouse[person] == other;
        }

        boolean mayMarry(int person, int other) {
            return areMarried(person, other) || (spouse[person] == NONE && spouse[other] == NONE);
        }

        void join(int person, int other) {
            spouse[person] = other;
            spouse[other] = person;
        }

        void part(int person) {
            int other = spouse[person];
            spouse[person] = NONE;
            if (has(other)) {
                spouse[other] = NONE;
            }
        }

        int marriages() {
            int married = 0;
            for (int p = 0; p < PERSONS; p++) {
                if (spouse[p] != NONE) {
                    married++;
                }
            }
            return married / 2;
        }

        /** With whom a PERSON must sit, as bits: nobody or one. */
        int partner(int person) {
            return spouse[person] == NONE ? 0 : 1 << spouse[person];
        }

        boolean together(int set) {
            for (int p = 0; p < PERSONS; p++) {
                if ((set >> p & 1) == 1 && spouse[p] != NONE && (set >> spouse[p] & 1) == 0) {
                    return false;
                }
            }
            return true;
        }

        // what they weigh

        int poundsOf(int person) {
            return withCold(person, weight[person]);
        }

        int withCold(int person, int weighing) {
            return (colds >> person & 1) == 1 ? weighing - weighing / 10 : weighing;
        }

        int poundsOfAll(int set) {
            int pounds = 0;
            for (int p = 0; p < PERSONS; p++) {
                if (holds(set & there, p)) {
                    pounds += withCold(p, weight[p]);
                }
            }
            return pounds;
        }

        /** Who is no more counts for nothing: a SIGHT may still name him. */
        int sumOver(int set, int[] figures) {
            int sum = 0;
            for (int p = 0; p < PERSONS; p++) {
                if (holds(set & there, p)) {
                    sum += figures[p];
                }
            }
            return sum;
        }

        // what comes over them

        int drifted(int person, int weighing) {
            return Math.max(1, Math.min(HEAVIEST, weighing + drift[person]));
        }

        void passDay() {
            day++;
            for (int p = 0; p < PERSONS; p++) {
                if (has(p)) {
                    weight[p] = drifted(p, weight[p]);
                }
            }
        }

        void feast() {
            for (int p = 0; p < PERSONS; p++) {
                if (has(p)) {
                    weight[p] = Math.min(HEAVIEST, weight[p] + 5);
                }
            }
        }

        void turnCold(int person) {
            colds ^= 1 << person;
        }

        // what is to come

        int firstDayOff(int person) {
            int weighing = weight[person];
            for (int d = 0; d < DAYS; d++) {
                if (Math.abs(withCold(person, weighing) - sworn[person]) > limit) {
                    return d;
                }
                weighing = drifted(person, weighing);
            }
            return NONE;
        }

        int firstDayAlike(int person, int other) {
            int one = weight[person];
            int two = weight[other];
            for (int d = 0; d < DAYS; d++) {
                if (withCold(person, one) == withCold(other, two)) {
                    return d;
                }
                one = drifted(person, one);
                two = drifted(other, two);
            }
            return NONE;
        }

        // the assize

        int ranked(int rank) {
            for (int p = 0; p < PERSONS; p++) {
                if (has(p) && howManyAhead(p) == rank) {
                    return p;
                }
            }
            return NONE;
        }

        private int howManyAhead(int person) {
            int ahead = 0;
            int pounds = poundsOf(person);
            for (int p = 0; p < PERSONS; p++) {
                if (has(p) && (poundsOf(p) > pounds || (poundsOf(p) == pounds && p < person))) {
                    ahead++;
                }
            }
            return ahead;
        }

        int mostAlike() {
            int most = 0;
            for (int p = 0; p < PERSONS; p++) {
                if (has(p)) {
                    most = Math.max(most, howManyLike(p));
                }
            }
            return most;
        }

        private int howManyLike(int person) {
            int like = 0;
            for (int p = 0; p < PERSONS; p++) {
                if (has(p) && poundsOf(p) == poundsOf(person)) {
                    like++;
                }
            }
            return like;
        }

        // sights

        boolean mayBeWeighed(int first, int second) {
            return hasAll(first) && hasAll(second) && first != 0 && second != 0 && (first & second) == 0;
        }

        boolean addSight(int first, int second, int how) {
            if (sights >= MOST_SIGHTS) {
                return false;
            }
            sightFirst[sights] = first;
            sightSecond[sights] = second;
            sightHow[sights] = how;
            sights++;
            return true;
        }
    }

    /** The signs that were said, and the grammar of ACTS. */
    private static final class Pad {
        // what has been read of the ACT at hand
        private static final int NOTHING = 0, BY_GOODS = 1, BAR = 2, ACROSS = 3, CARET = 4, ASTRAY = 5;

        final int[] signs = new int[MOST_SIGNS];
        int count;

        boolean add(int sign) {
            if (count >= MOST_SIGNS) {
                return false;
            }
            signs[count] = sign;
            count++;
            return true;
        }

        int firstFault() {
            int read = NOTHING;
            for (int i = 0; i < count; i++) {
                read = after(read, signs[i]);
                if (read == ASTRAY) {
                    return i;
                }
            }
            return read == NOTHING ? NONE : count;
        }

        private static int after(int read, int sign) {
            switch (read) {
                case NOTHING: return afterNothing(sign);
                case BY_GOODS: return isLetter(sign) ? BY_GOODS : sign == '|' ? BAR : ASTRAY;
                case BAR: return isLetter(sign) ? ACROSS : ASTRAY;
                case ACROSS: return isLetter(sign) ? ACROSS : sign == ';' ? NOTHING : ASTRAY;
                case CARET: return isLetter(sign) ? NOTHING : ASTRAY;
                default: return ASTRAY;
            }
        }

        private static int afterNothing(int sign) {
            switch (sign) {
                case '.': return NOTHING;
                case '*': return NOTHING;
                case '^': return CARET;
                case '|': return BAR;
                default: return isLetter(sign) ? BY_GOODS : ASTRAY;
            }
        }

        static boolean isLetter(int sign) {
            return within(sign, 'A', 'A' + PERSONS - 1);
        }
    }

    /** A MARKET without FAULT, held on a copy of the town up to the first ACT that can not be. */
    private static final class Market {
        final Town after = new Town();
        int acts;
        int badAct;
        private int why;
        private int sales;
        private int sold;
        private int pounds;
        private int offAct;

        // the ACT that is being read
        private int by;
        private int across;
        private boolean twice;
        private boolean barred;
        private boolean cold;

        void hold(Pad pad, Town town) {
            after.copyFrom(town);
            acts = 0;
            badAct = NONE;
            why = NONE;
            sales = 0;
            sold = 0;
            pounds = 0;
            offAct = NONE;
            beginAct();
            for (int i = 0; i < pad.count && badAct == NONE; i++) {
                read(pad.signs[i]);
            }
        }

        int answer(int what) {
            switch (what) {
                case 0: return badAct;
                case 1: return why;
                case 2: return sales;
                case 3: return sold;
                case 4: return pounds;
                default: return offAct;
            }
        }

        private void beginAct() {
            by = 0;
            across = 0;
            twice = false;
            barred = false;
            cold = false;
        }

        private void endAct() {
            acts++;
            beginAct();
        }

        private void read(int sign) {
            if (Pad.isLetter(sign)) {
                readPerson(sign - 'A');
            } else if (sign == '|') {
                barred = true;
            } else if (sign == '^') {
                cold = true;
            } else if (sign == '.') {
                after.passDay();
                endAct();
            } else if (sign == '*') {
                after.feast();
                endAct();
            } else {
                sell();
            }
        }

        private void readPerson(int person) {
            if (!cold) {
                sit(person);
            } else if (after.has(person)) {
                after.turnCold(person);
                endAct();
            } else {
                breakOff(1);
            }
        }

        private void sit(int person) {
            if (holds(by | across, person)) {
                twice = true;
            }
            if (barred) {
                across |= 1 << person;
            } else {
                by |= 1 << person;
            }
        }

        private void breakOff(int reason) {
            badAct = acts;
            why = reason;
        }

        private void sell() {
            int as = after.sumOver(across, after.sworn) - after.sumOver(by, after.sworn);
            int reason = reasonAgainst(as);
            if (reason != FINE) {
                breakOff(reason);
                return;
            }
            int goods = Math.max(0, after.poundsOfAll(across) - after.poundsOfAll(by));
            if (offAct == NONE && Math.abs(goods - as) > after.limit) {
                offAct = acts;
            }
            sales++;
            sold += as;
            pounds += goods;
            endAct();
        }

        private int reasonAgainst(int as) {
            if (!after.hasAll(by | across)) {
                return 1;
            }
            if (twice) {
                return 2;
            }
            if (!after.together(by) || !after.together(across)) {
                return 3;
            }
            return as <= 0 ? 4 : FINE;
        }
    }

    /** All ways to sit on two pans. The rows, by a set's bits, are filled anew for each call. */
    private static final class Pans {
        private static final int MOST_MADE = PERSONS * HEAVIEST;

        private final int[] pounds = new int[SETS];
        private final int[] sworn = new int[SETS];
        private final int[] partners = new int[SETS];
        private final byte[] made = new byte[MOST_MADE + 1];

        int fewest;
        int bestFirst;
        int bestSecond;
        int nearest;
        int dearest;
        int dearestAcross;

        private void fillRows(Town town) {
            for (int p = 0; p < PERSONS; p++) {
                int bit = 1 << p;
                boolean has = town.has(p);
                int itsPounds = has ? town.poundsOf(p) : 0;
                int itsSworn = has ? town.sworn[p] : 0;
                int itsPartner = has ? town.partner(p) : 0;
                for (int set = bit; set < 2 * bit; set++) {
                    pounds[set] = pounds[set - bit] + itsPounds;
                    sworn[set] = sworn[set - bit] + itsSworn;
                    partners[set] = partners[set - bit] | itsPartner;
                }
            }
        }

        private boolean mayIt(int set) {
            return (partners[set] & ~set) == 0;
        }

        /** One walk over all seats finds what MAKE, NEAR and GAP ask. */
        void seatAll(Town town, boolean asSworn, int v) {
            fillRows(town);
            fewest = NONE;
            bestFirst = NONE;
            bestSecond = NONE;
            nearest = v;
            Arrays.fill(made, (byte) 0);
            int[] values = asSworn ? sworn : pounds;
            int first = 0;
            int firsts = subsetsOf(town.there);
            for (int i = 0; i < firsts; i++) {
                if (mayIt(first)) {
                    seatSecond(values, first, town.there & ~first, v);
                }
                first = nextSubset(first, town.there);
            }
        }

        private void seatSecond(int[] values, int first, int others, int v) {
            int second = 0;
            int seconds = subsetsOf(others);
            for (int i = 0; i < seconds; i++) {
                int makes = values[first] - values[second];
                // no lighter first pan comes nearer to v than nobody sitting does
                if (makes > 0 && mayIt(second)) {
                    note(first, second, makes, v);
                }
                second = nextSubset(second, others);
            }
        }

        private void note(int first, int second, int makes, int v) {
            nearest = Math.min(nearest, Math.abs(makes - v));
            if (makes <= MOST_MADE) {
                made[makes] = 1;
            }
            if (makes == v) {
                keepFewest(first, second);
            }
        }

        /** The walk comes to the least pans first, so that only fewer may take their place. */
        private void keepFewest(int first, int second) {
            int sit = Integer.bitCount(first | second);
            if (fewest == NONE || sit < fewest) {
                fewest = sit;
                bestFirst = first;
                bestSecond = second;
            }
        }

        int leastUnmade() {
            for (int v = 1; v <= MOST_MADE; v++) {
                if (made[v] == 0) {
                    return v;
                }
            }
            return MOST_MADE + 1;
        }

        void sellDearest(Town town, int goods, int set) {
            fillRows(town);
            dearest = NONE;
            dearestAcross = NONE;
            int most = 0;
            int others = town.there & ~set;
            int across = 0;
            int sets = subsetsOf(others);
            for (int i = 0; i < sets; i++) {
                int as = sworn[across] - sworn[set];
                if (as > most && mayIt(across) && pounds[across] <= goods + pounds[set]) {
                    most = as;
                    dearest = as;
                    dearestAcross = across;
                }
                across = nextSubset(across, others);
            }
        }
    }

    /** The worlds of AIRS by which all SIGHTS are so: in each, one PERSON (or NONE) weighs so much more. */
    private static final class Worlds {
        private static final int MOST_MORE = 9, MOST = 1 + PERSONS * 2 * MOST_MORE;

        private final int[] who = new int[MOST];
        private final int[] more = new int[MOST];
        private final int[] leads = new int[MOST_SIGHTS];
        private final int[] left = new int[3];
        int count;
        int bestPair;
        int bestLeft;

        void find(Town town) {
            count = 0;
            fillLeads(town);
            addIfSeen(town, NONE, 0);
            for (int p = 0; p < PERSONS; p++) {
                if (town.has(p)) {
                    findOf(town, p);
                }
            }
        }

        private void findOf(Town town, int person) {
            for (int d = -MOST_MORE; d <= MOST_MORE; d++) {
                if (d != 0 && town.sworn[person] + d >= 1) {
                    addIfSeen(town, person, d);
                }
            }
        }

        private void addIfSeen(Town town, int person, int d) {
            if (count < MOST && isAsSeen(town, person, d)) {
                who[count] = person;
                more[count] = d;
                count++;
            }
        }

        /** By how much the first pan of each SIGHT would be heavier, if all weighed what they are SWORN to. */
        private void fillLeads(Town town) {
            for (int s = 0; s < town.sights; s++) {
                leads[s] = town.sumOver(town.sightFirst[s], town.sworn) - town.sumOver(town.sightSecond[s], town.sworn);
            }
        }

        private boolean isAsSeen(Town town, int person, int d) {
            for (int s = 0; s < town.sights; s++) {
                int lead = leads[s];
                if (holds(town.sightFirst[s], person)) {
                    lead += d;
                } else if (holds(town.sightSecond[s], person)) {
                    lead -= d;
                }
                if (balance(lead, 0) != town.sightHow[s]) {
                    return false;
                }
            }
            return true;
        }

        int suspects() {
            int set = 0;
            for (int w = 0; w < count; w++) {
                if (who[w] != NONE) {
                    set |= 1 << who[w];
                }
            }
            return set;
        }

        /** The worlds of a PERSON stand with the least d first. */
        int leastMore(int person) {
            for (int w = 0; w < count; w++) {
                if (who[w] == person) {
                    return more[w] + 100;
                }
            }
            return NONE;
        }

        void choosePair(Town town) {
            bestPair = NONE;
            bestLeft = NONE;
            if (count == 0) {
                return;
            }
            for (int p = 0; p < PERSONS; p++) {
                for (int q = p + 1; q < PERSONS; q++) {
                    if (town.hasTwo(p, q)) {
                        tryPair(town, p, q);
                    }
                }
            }
        }

        private void tryPair(Town town, int p, int q) {
            Arrays.fill(left, 0);
            for (int w = 0; w < count; w++) {
                int first = town.sworn[p] + (who[w] == p ? more[w] : 0);
                int second = town.sworn[q] + (who[w] == q ? more[w] : 0);
                left[balance(first, second)]++;
            }
            int most = Math.max(left[0], Math.max(left[1], left[2]));
            if (bestPair == NONE || most < bestLeft) {
                bestPair = 10 * p + q;
                bestLeft = most;
            }
        }
    }

    /** A CHANCE or a mean, in lowest terms. */
    private static final class Fraction {
        // far more steps than Euclid takes for two longs
        private static final int STEPS = 200;

        long upper;
        long lower;

        void setHeavier(Town town, int first, int second, int t, int k) {
            int seated = first | second;
            int ahead = town.sumOver(first, town.weight) - town.sumOver(second, town.weight);
            int sit = Integer.bitCount(seated);
            long ways = 0;
            int grown = 0;
            int sets = subsetsOf(seated);
            for (int i = 0; i < sets; i++) {
                int more = Integer.bitCount(grown & first) - Integer.bitCount(grown & second);
                if (ahead + k * more > 0) {
                    int grew = Integer.bitCount(grown);
                    ways += power(t, grew) * power(10 - t, sit - grew);
                }
                grown = nextSubset(grown, seated);
            }
            put(ways, power(10, sit));
        }

        void setMean(Town town, int first, int second, int t, int k) {
            int ahead = town.sumOver(first, town.weight) - town.sumOver(second, town.weight);
            int more = Integer.bitCount(first) - Integer.bitCount(second);
            put(10L * ahead + (long) t * k * more, 10);
        }

        private void put(long above, long below) {
            long shared = sharedDivisor(Math.abs(above), below);
            upper = shared > 1 ? above / shared : above;
            lower = shared > 1 ? below / shared : below;
        }

        private static long sharedDivisor(long a, long b) {
            long one = a;
            long two = b;
            for (int i = 0; i < STEPS && two != 0; i++) {
                long rest = one % two;
                one = two;
                two = rest;
            }
            return one;
        }

        private static long power(int base, int times) {
            long product = 1;
            for (int i = 0; i < times; i++) {
                product *= base;
            }
            return product;
        }
    }

    /** A YEAR, which passes on a copy of the town. */
    private static final class Year {
        private static final int FACTOR = 75, MORE = 74, DIVISOR = 65537;

        private final Town then = new Town();
        int sold;
        int pounds;
        int salesOff;

        void pass(Town town, int seed, int m) {
            then.copyFrom(town);
            sold = 0;
            pounds = 0;
            salesOff = 0;
            int x = seed;
            for (int i = 0; i < m; i++) {
                x = (FACTOR * x + MORE) % DIVISOR;
                if (x / 8 % 2 == 1) {
                    then.passDay();
                }
                if (then.has(x % 8)) {
                    sell(x % 8);
                }
            }
        }

        private void sell(int person) {
            int across = 1 << person | then.partner(person);
            int as = then.sumOver(across, then.sworn);
            int goods = then.poundsOfAll(across);
            sold += as;
            pounds += goods;
            if (Math.abs(goods - as) > then.limit) {
                salesOff++;
            }
        }
    }
}
