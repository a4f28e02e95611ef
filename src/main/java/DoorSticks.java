import java.util.Arrays;

/** Doors that swell, bend and sag in a house that leans, and what is asked of them. */
public final class DoorSticks {
    public static final int NONE = -1, BAD = -2, STATE = -3, FULL = -4;
    public static final long NO = Long.MIN_VALUE;

    private static final int NO_ONE = -5;
    private static final int NOTHING = -11, CAST = -12, PLACE = -13, SIZE = -14;
    // GAPS and their like may be -1 or -2 themselves, so these refusals lie far below them.
    private static final int FAR_NONE = -10001, FAR_BAD = -10002;

    private static final int DOORS = 4, SPOTS = 6, SIDES = 2, MONTHS = 12, HOUSES = 6, TAPES = 6, ROWS = 12;
    private static final int MOST_WATER = 99, MOST_SAG = 20, MOST_LEAN = 20, MOST_PACK = 9, MOST_CUT = 99;
    private static final int MOST_V = 9, MOST_MONTH = 9999, MOST_RUN = 60, MOST_N = 9, MOST_GAP = 99;
    private static final int MOST_SIGN = 127;

    private static final int KINDS = 7;
    private static final int PLAIN = 0, SWOLLEN = 1, BOWED = 2, SAGGED = 3, FRAMED = 4, PLANED = 5, LEANED = 6;
    private static final int[] ABOVE = {-1, PLAIN, PLAIN, PLAIN, SWOLLEN, BOWED, SAGGED};

    private static final int PLANE = 0, PACK = 1, SCREWS = 2, PAINT = 3, STRIP = 4;

    private final Home home = new Home();
    private final Home picture = new Home();
    private boolean pictured;
    private final HouseText text = new HouseText();
    private final House bare = new House(new Clause[0]);
    private final House[] houses = new House[HOUSES];
    private int houseCount;
    private final Course course = new Course();
    private final Course otherCourse = new Course();
    private final Acts acts = new Acts();
    private final Tape[] tapes = new Tape[TAPES];

    public DoorSticks() {
        for (int t = 0; t < TAPES; t++) {
            tapes[t] = new Tape();
        }
    }

    // ---- airs, doors, houses

    public int air(int month, int n) {
        if (!within(month, 0, MONTHS - 1)) {
            return NONE;
        }
        if (!within(n, 0, MOST_WATER)) {
            return BAD;
        }
        int was = home.airs[month];
        home.airs[month] = n;
        return was;
    }

    public int lean(int n) {
        if (!within(n, 0, MOST_LEAN)) {
            return BAD;
        }
        int was = home.lean;
        home.lean = n;
        return was;
    }

    public int door(int kind, int v) {
        if (!within(kind, 0, KINDS - 1)) {
            return NONE;
        }
        if (!within(v, 0, MOST_V)) {
            return BAD;
        }
        if (home.doorCount >= DOORS) {
            return FULL;
        }
        int number = home.doorCount;
        home.doors[number].begin(number, kind, v);
        home.doorCount++;
        return number;
    }

    public int of(int door, int what) {
        Door d = doorAt(door);
        if (d == null) {
            return FAR_NONE;
        }
        if (within(what, 20, 19 + SPOTS)) {
            return d.cuts[what - 20];
        }
        if (within(what, 30, 29 + SPOTS)) {
            return courseNow(d).gap(what - 30);
        }
        switch (what) {
            case 0: return d.kind;
            case 1: return d.v;
            case 2: return d.waters[0];
            case 3: return d.waters[1];
            case 4: return d.paints[0] + 2 * d.paints[1];
            case 5: return d.sag;
            case 6: return d.pack;
            case 7: return courseNow(d).swell;
            case 8: return courseNow(d).bend;
            case 9: return courseNow(d).hang;
            case 10: return courseNow(d).rubbing();
            case 11: return courseNow(d).draughty();
            default: return FAR_NONE;
        }
    }

    public int water(int door, int side, int n) {
        Door d = doorAt(door);
        if (d == null || !within(side, 0, SIDES - 1)) {
            return NONE;
        }
        if (!within(n, 0, MOST_WATER)) {
            return BAD;
        }
        int was = d.waters[side];
        d.waters[side] = n;
        return was;
    }

    public int sag(int door, int n) {
        Door d = doorAt(door);
        if (d == null) {
            return NONE;
        }
        if (!within(n, 0, MOST_SAG)) {
            return BAD;
        }
        int was = d.sag;
        d.sag = n;
        return was;
    }

    public int feed(int sign) {
        if (!within(sign, 0, MOST_SIGN)) {
            return BAD;
        }
        return text.append(sign) ? text.length : FULL;
    }

    public int house() {
        if (houseCount >= HOUSES) {
            return FULL;
        }
        int fault = text.parse();
        text.length = 0;
        if (fault != HouseText.WHOLE) {
            return -10 - fault;
        }
        houses[houseCount] = text.built();
        home.holding = houseCount;
        houseCount++;
        return home.holding;
    }

    public int told(int what) {
        if (within(what, 10, 9 + MONTHS)) {
            return home.airs[what - 10];
        }
        switch (what) {
            case 0: return holdingHouse().sink;
            case 1: return holdingHouse().draught;
            case 2: return home.month;
            case 3: return home.lean;
            default: return NONE;
        }
    }

    // ---- months, mends

    public int month() {
        if (home.month >= MOST_MONTH) {
            return STATE;
        }
        House house = holdingHouse();
        int air = home.airs[home.month % MONTHS];
        for (int d = 0; d < home.doorCount; d++) {
            Door door = home.doors[d];
            door.takeUp(air);
            door.drawOut(house.total(HouseText.DRAW, door.factsIn(home.month)));
        }
        home.month++;
        home.lean = sunk(home.lean, home.month, house.sink);
        return home.month;
    }

    public int mend(int door, int mend, int where, int n) {
        Door d = doorAt(door);
        if (d == null || !within(mend, PLANE, STRIP) || !isPlaceOfMend(mend, where)) {
            return NONE;
        }
        if (mend != SCREWS && mend != PAINT && !within(n, 0, MOST_N)) {
            return BAD;
        }
        switch (mend) {
            case PLANE: return d.cutMore(where, n);
            case PACK: return d.packMore(n);
            case SCREWS: return d.driveScrews();
            case PAINT: return d.paintSide(where);
            default: return d.cutMore(where, -n);
        }
    }

    // ---- what comes

    public int run(int door, int n, int what) {
        Door d = doorAt(door);
        if (d == null || !within(what, 0, 8)) {
            return FAR_NONE;
        }
        if (!within(n, 0, MOST_RUN)) {
            return FAR_BAD;
        }
        courseNow(d).goOn(n);
        switch (what) {
            case 6: return course.door.waters[0];
            case 7: return course.door.waters[1];
            case 8: return course.door.sag;
            default: return course.gap(what);
        }
    }

    public int first(int door, int what) {
        Door d = doorAt(door);
        if (d == null || !within(what, 0, 1)) {
            return NONE;
        }
        courseNow(d);
        for (int months = 0; months <= MOST_RUN; months++) {
            int spot = course.firstRubbing();
            if (spot != NO_ONE) {
                return what == 0 ? months : spot;
            }
            course.goOn(1);
        }
        return NO_ONE;
    }

    public int worst(int door, int spot, int n, int what) {
        Door d = doorAt(door);
        if (d == null || !isSpot(spot) || !within(what, 0, 1)) {
            return FAR_NONE;
        }
        if (!within(n, 0, MOST_RUN)) {
            return FAR_BAD;
        }
        courseNow(d).goThrough(n);
        return what == 0 ? course.least[spot] : course.greatest[spot];
    }

    public int off(int door, int spot) {
        Door d = doorAt(door);
        if (d == null || !within(spot, -1, SPOTS - 1)) {
            return NONE;
        }
        courseNow(d).goThrough(MONTHS);
        if (spot == -1) {
            return course.fitsWhenCut() ? 1 : 0;
        }
        return course.missing(spot);
    }

    public int cheapest(int door, int what) {
        Door d = doorAt(door);
        if (d == null || !within(what, 0, 1)) {
            return NONE;
        }
        int bestSet = 0;
        int bestCost = NO_ONE;
        for (int set = 0; set < 16; set++) {
            int cost = costOf(d, set);
            if (cost != NO_ONE && (bestCost == NO_ONE || cost < bestCost)) {
                bestSet = set;
                bestCost = cost;
            }
        }
        return what == 0 ? bestSet : bestCost;
    }

    public int why(int door, int spot) {
        Door d = doorAt(door);
        if (d == null || !isSpot(spot)) {
            return NONE;
        }
        Course c = courseNow(d);
        if (c.gap(spot) >= 0) {
            return STATE;
        }
        int room = d.cuts[spot];
        int bits = 0;
        bits += takenUp(spot, 0, c.hang, c.bend, c.lean, d.pack) <= room ? 1 : 0;
        bits += takenUp(spot, c.swell, 0, c.bend, c.lean, d.pack) <= room ? 2 : 0;
        bits += takenUp(spot, c.swell, c.hang, c.bend, 0, d.pack) <= room ? 4 : 0;
        bits += takenUp(spot, c.swell, c.hang, 0, c.lean, d.pack) <= room ? 8 : 0;
        return bits;
    }

    // ---- odds, changes, books

    public long odds(int door, int part) {
        Door d = doorAt(door);
        if (d == null || !within(part, 0, 1)) {
            return NO;
        }
        int rubs = 0;
        for (int m = 0; m < MONTHS; m++) {
            courseNow(d).goInAir(home.airs[m]);
            rubs += course.rubbing() != 0 ? 1 : 0;
        }
        return partOfTwelfths(rubs, part);
    }

    public long mean(int door, int side, int part) {
        Door d = doorAt(door);
        if (d == null || !within(side, 0, SIDES - 1) || !within(part, 0, 1)) {
            return NO;
        }
        int sum = 0;
        for (int m = 0; m < MONTHS; m++) {
            courseNow(d).goInAir(home.airs[m]);
            sum += course.door.waters[side];
        }
        return partOfTwelfths(sum, part);
    }

    public int changed(int what) {
        if (!within(what, 0, 1)) {
            return NONE;
        }
        int pairs = 0;
        int foremost = NO_ONE;
        for (int a = 0; a < home.doorCount; a++) {
            for (int b = a + 1; b < home.doorCount; b++) {
                if (rubsLessChanged(home.doors[a], home.doors[b])) {
                    foremost = pairs == 0 ? 10 * a + b : foremost;
                    pairs++;
                }
            }
        }
        return what == 0 ? pairs : foremost;
    }

    public int book(int spot, int gap) {
        if (spot == -1) {
            home.rowCount = 0;
            return 0;
        }
        if (!isSpot(spot)) {
            return NONE;
        }
        if (!within(gap, -MOST_GAP, MOST_GAP)) {
            return BAD;
        }
        if (home.rowCount >= ROWS) {
            return FULL;
        }
        home.rowSpots[home.rowCount] = spot;
        home.rowGaps[home.rowCount] = gap;
        home.rowCount++;
        return home.rowCount;
    }

    public int looked(int door, int n) {
        Door d = doorAt(door);
        if (d == null) {
            return NONE;
        }
        if (!within(n, 0, MOST_N)) {
            return BAD;
        }
        courseNow(d);
        for (int row = 0; row < home.rowCount; row++) {
            if (Math.abs(course.gap(home.rowSpots[row]) - home.rowGaps[row]) > n) {
                return row;
            }
            course.goOn(1);
        }
        return NO_ONE;
    }

    // ---- judging, the image, acts, tapes

    public int judge(int tape, int i, int door) {
        Tape t = tapeAt(tape);
        Door d = doorAt(door);
        if (t == null || d == null) {
            return NONE;
        }
        if (t.sort != Tape.HOLDS_NOTHING && t.sort != Tape.SHORTS) {
            return CAST;
        }
        courseNow(d);
        for (int spot = 0; spot < SPOTS; spot++) {
            // i is looked at first: only a place in the row is far enough from the greatest int.
            if (!t.hasPlace(i) || !t.hasPlace(i + spot)) {
                return 100 + spot;
            }
            if (t.items[i + spot] != course.gap(spot)) {
                return spot;
            }
        }
        return NO_ONE;
    }

    public int image() {
        picture.become(home);
        pictured = true;
        return home.doorCount;
    }

    public int undo() {
        if (!pictured) {
            return STATE;
        }
        home.become(picture);
        return home.doorCount;
    }

    public int act(int door, int act, int x) {
        acts.forget();
        Door d = doorAt(door);
        if (d == null) {
            return 0;
        }
        return acts.perform(d, act, x);
    }

    public int trace(int i) {
        return within(i, 0, acts.keptCount() - 1) ? acts.kept[i] : NONE;
    }

    public int taken(int door, int k) {
        if (!within(k, 0, KINDS - 1)) {
            return BAD;
        }
        Door d = doorAt(door);
        if (d == null) {
            return NOTHING;
        }
        return isUnder(d.kind, k) ? d.kind : CAST;
    }

    public int count(int what) {
        switch (what) {
            case 0: return home.doorCount;
            case 1: return houseCount;
            case 2: return home.rowCount;
            case 3: return text.length;
            case 4: return acts.ran;
            default: return BAD;
        }
    }

    public int tape(int tape, int sort, int n) {
        Tape t = tapeAt(tape);
        if (t == null) {
            return NONE;
        }
        if (sort == Tape.HOLDS_NOTHING) {
            t.becomeRow(sort, 0);
            return 1;
        }
        if (!within(sort, Tape.BYTES, Tape.BOOLEANS) || n > Tape.MOST_ITEMS) {
            return BAD;
        }
        if (n < 0) {
            return SIZE;
        }
        t.becomeRow(sort, n);
        return 1;
    }

    public int item(int tape, int i, long v) {
        Tape t = tapeAt(tape);
        if (t == null) {
            return NONE;
        }
        if (t.sort == Tape.HOLDS_NOTHING) {
            return NOTHING;
        }
        if (!t.hasPlace(i)) {
            return PLACE;
        }
        t.items[i] = t.narrowed(v);
        return 1;
    }

    public long read(int tape, int i) {
        Tape t = tapeAt(tape);
        return t != null && t.hasPlace(i) ? t.items[i] : NO;
    }

    public int shift(int tape, int i, int other, int j, int n) {
        Tape from = tapeAt(tape);
        Tape to = tapeAt(other);
        if (from == null || to == null) {
            return NONE;
        }
        if (from.sort == Tape.HOLDS_NOTHING || to.sort == Tape.HOLDS_NOTHING) {
            return NOTHING;
        }
        if (from.sort != to.sort) {
            return CAST;
        }
        if (!from.hasPlaces(i, n) || !to.hasPlaces(j, n)) {
            return PLACE;
        }
        System.arraycopy(from.items, i, to.items, j, n);
        return n;
    }

    // ---- what the calls share

    private static boolean within(int n, int least, int most) {
        return least <= n && n <= most;
    }

    private static boolean isSpot(int n) {
        return within(n, 0, SPOTS - 1);
    }

    private static boolean isPlaceOfMend(int mend, int where) {
        if (mend == PLANE || mend == STRIP) {
            return isSpot(where);
        }
        return mend != PAINT || within(where, 0, SIDES - 1);
    }

    private static boolean isUnder(int kind, int wanted) {
        int k = kind;
        for (int steps = 0; steps < KINDS && within(k, 0, KINDS - 1); steps++) {
            if (k == wanted) {
                return true;
            }
            k = ABOVE[k];
        }
        return false;
    }

    /** LEAN behind a MONTH, when MONTH has become so. */
    private static int sunk(int lean, int month, int sink) {
        return month % MONTHS == 0 ? Math.min(MOST_LEAN, lean + sink) : lean;
    }

    /** What is taken from CUT at a SPOT, so that GAP is left. */
    private static int takenUp(int spot, int swell, int hang, int bend, int lean, int pack) {
        switch (spot) {
            case 0: return lean;
            case 1: return lean - hang;
            case 2: return swell + hang + bend;
            case 3: return swell - hang + bend;
            case 4: return hang;
            default: return pack;
        }
    }

    private static long partOfTwelfths(int above, int part) {
        int by = MONTHS;
        while (by > 1 && (above % by != 0 || MONTHS % by != 0)) {
            by--;
        }
        return (part == 0 ? above : MONTHS) / by;
    }

    private Door doorAt(int n) {
        return within(n, 0, home.doorCount - 1) ? home.doors[n] : null;
    }

    private Tape tapeAt(int n) {
        return within(n, 0, TAPES - 1) ? tapes[n] : null;
    }

    private House holdingHouse() {
        House house = within(home.holding, 0, HOUSES - 1) ? houses[home.holding] : null;
        return house == null ? bare : house;
    }

    private Course courseNow(Door d) {
        course.begin(d, home, holdingHouse());
        return course;
    }

    /** What a set of CHEAPEST costs; NO_ONE, if the DOOR RUBS with it. */
    private int costOf(Door d, int set) {
        course.begin(d, home, holdingHouse());
        Door tried = course.door;
        int cost = 0;
        if ((set & 2) != 0) {
            tried.packMore(2);
            cost += 1;
        }
        if ((set & 4) != 0) {
            tried.driveScrews();
            cost += 2;
        }
        if ((set & 8) != 0) {
            tried.paintSide(0);
            tried.paintSide(1);
            cost += 5;
        }
        course.settle();
        course.goThrough(MONTHS);
        int rubbingSpots = course.missingSpots();
        if ((set & 1) != 0) {
            return cost + 3 * rubbingSpots;
        }
        return rubbingSpots == 0 ? cost : NO_ONE;
    }

    private boolean rubsLessChanged(Door a, Door b) {
        course.begin(a, home, holdingHouse());
        otherCourse.begin(b, home, holdingHouse());
        int now = course.rubsWith(a.cuts) + otherCourse.rubsWith(b.cuts);
        int then = course.rubsWith(b.cuts) + otherCourse.rubsWith(a.cuts);
        return then < now;
    }

    /** A DOOR and all that is its own. */
    private static final class Door {
        int number, kind, v, sag, pack;
        final int[] waters = new int[SIDES];
        final int[] paints = new int[SIDES];
        final int[] cuts = new int[SPOTS];
        private final int[] facts = new int[6];

        void begin(int itsNumber, int itsKind, int itsV) {
            number = itsNumber;
            kind = itsKind;
            v = itsV;
            sag = 0;
            pack = 0;
            Arrays.fill(waters, 50);
            Arrays.fill(paints, 0);
            Arrays.fill(cuts, 4);
        }

        void become(Door other) {
            number = other.number;
            kind = other.kind;
            v = other.v;
            sag = other.sag;
            pack = other.pack;
            System.arraycopy(other.waters, 0, waters, 0, SIDES);
            System.arraycopy(other.paints, 0, paints, 0, SIDES);
            System.arraycopy(other.cuts, 0, cuts, 0, SPOTS);
        }

        private int dampness() {
            return (waters[0] + waters[1]) / 2;
        }

        /** What TESTS look at, in the order of HouseText.LETTERS. */
        int[] factsIn(int month) {
            facts[0] = kind;
            facts[1] = number;
            facts[2] = dampness() / 10;
            facts[3] = sag;
            facts[4] = paints[0] + paints[1];
            facts[5] = month % MONTHS;
            return facts;
        }

        int swell(int swelling) {
            int swell = swelling * dampness() / 20;
            switch (kind) {
                case SWOLLEN: return swell + v;
                case FRAMED: return (swell + v) / 2;
                case PLANED: return Math.max(0, swell - 2);
                default: return swell;
            }
        }

        int bend() {
            int bend = Math.abs(waters[0] - waters[1]) / 10;
            return kind == BOWED || kind == PLANED ? 2 * bend : bend;
        }

        int hang(int lean) {
            int hang = Math.max(0, sag - pack);
            switch (kind) {
                case SAGGED: return hang + v;
                case LEANED: return hang + v + lean / 2;
                default: return hang;
            }
        }

        void takeUp(int air) {
            for (int side = 0; side < SIDES; side++) {
                waters[side] += (air - waters[side]) / (paints[side] == 0 ? 2 : 8);
            }
        }

        void drawOut(int drawn) {
            sag = Math.min(MOST_SAG, sag + drawn);
        }

        int cutMore(int spot, int n) {
            int was = cuts[spot];
            cuts[spot] = Math.max(0, Math.min(MOST_CUT, was + n));
            return was;
        }

        int packMore(int n) {
            int was = pack;
            pack = Math.min(MOST_PACK, was + n);
            return was;
        }

        int driveScrews() {
            int was = sag;
            sag = 0;
            return was;
        }

        int paintSide(int side) {
            int was = paints[side];
            paints[side] = 1;
            return was;
        }
    }

    /** All that THE IMAGE takes. */
    private static final class Home {
        final int[] airs = new int[MONTHS];
        final Door[] doors = new Door[DOORS];
        int doorCount, lean, month;
        int holding = -1;
        final int[] rowSpots = new int[ROWS];
        final int[] rowGaps = new int[ROWS];
        int rowCount;

        Home() {
            Arrays.fill(airs, 50);
            for (int d = 0; d < DOORS; d++) {
                doors[d] = new Door();
            }
        }

        void become(Home other) {
            System.arraycopy(other.airs, 0, airs, 0, MONTHS);
            for (int d = 0; d < DOORS; d++) {
                doors[d].become(other.doors[d]);
            }
            doorCount = other.doorCount;
            lean = other.lean;
            month = other.month;
            holding = other.holding;
            System.arraycopy(other.rowSpots, 0, rowSpots, 0, ROWS);
            System.arraycopy(other.rowGaps, 0, rowGaps, 0, ROWS);
            rowCount = other.rowCount;
        }
    }

    /** A DOOR as it would go on, with the AIR it has: all copies, so that what is asked changes nothing. */
    private static final class Course {
        private House house = new House(new Clause[0]);
        final Door door = new Door();
        private final int[] airs = new int[MONTHS];
        private int month;
        int lean, swell, bend, hang;
        final int[] least = new int[SPOTS];
        final int[] greatest = new int[SPOTS];

        void begin(Door from, Home home, House holding) {
            house = holding;
            door.become(from);
            System.arraycopy(home.airs, 0, airs, 0, MONTHS);
            month = home.month;
            lean = home.lean;
            settle();
        }

        void settle() {
            int[] facts = door.factsIn(month);
            swell = door.swell(house.tellsSwell ? house.total(HouseText.SWELL, facts) : 1);
            bend = door.bend();
            hang = door.hang(lean);
        }

        private void pass(int air) {
            door.takeUp(air);
            door.drawOut(house.total(HouseText.DRAW, door.factsIn(month)));
            month++;
            lean = sunk(lean, month, house.sink);
        }

        void goInAir(int air) {
            pass(air);
            settle();
        }

        void goOn(int months) {
            for (int m = 0; m < months; m++) {
                pass(airs[month % MONTHS]);
            }
            settle();
        }

        void goThrough(int months) {
            for (int spot = 0; spot < SPOTS; spot++) {
                least[spot] = gap(spot);
                greatest[spot] = gap(spot);
            }
            for (int m = 0; m < months; m++) {
                pass(airs[month % MONTHS]);
                settle();
                for (int spot = 0; spot < SPOTS; spot++) {
                    least[spot] = Math.min(least[spot], gap(spot));
                    greatest[spot] = Math.max(greatest[spot], gap(spot));
                }
            }
        }

        int gap(int spot) {
            return isSpot(spot) ? door.cuts[spot] - takenUp(spot, swell, hang, bend, lean, door.pack) : 0;
        }

        int firstRubbing() {
            for (int spot = 0; spot < SPOTS; spot++) {
                if (gap(spot) < 0) {
                    return spot;
                }
            }
            return NO_ONE;
        }

        int rubbing() {
            int bits = 0;
            for (int spot = 0; spot < SPOTS; spot++) {
                bits |= gap(spot) < 0 ? 1 << spot : 0;
            }
            return bits;
        }

        int draughty() {
            int bits = 0;
            for (int spot = 0; spot < SPOTS; spot++) {
                bits |= gap(spot) > house.draught ? 1 << spot : 0;
            }
            return bits;
        }

        int rubsWith(int[] cuts) {
            int rubs = 0;
            for (int spot = 0; spot < SPOTS && spot < cuts.length; spot++) {
                rubs += cuts[spot] < takenUp(spot, swell, hang, bend, lean, door.pack) ? 1 : 0;
            }
            return rubs;
        }

        /** OFF at a SPOT, when the MONTHS have been gone through. */
        int missing(int spot) {
            return Math.max(0, -least[spot]);
        }

        int missingSpots() {
            int spots = 0;
            for (int spot = 0; spot < SPOTS; spot++) {
                spots += missing(spot) > 0 ? 1 : 0;
            }
            return spots;
        }

        boolean fitsWhenCut() {
            for (int spot = 0; spot < SPOTS; spot++) {
                if (greatest[spot] + missing(spot) > house.draught) {
                    return false;
                }
            }
            return true;
        }
    }

    /** A HOUSE as it was read. */
    private static final class House {
        private final Clause[] clauses;
        final boolean tellsSwell;
        final int sink, draught;

        House(Clause[] clauses) {
            this.clauses = clauses;
            boolean anySwell = false;
            int lastSink = 0;
            int lastDraught = 9;
            for (Clause clause : clauses) {
                anySwell = anySwell || clause.word == HouseText.SWELL;
                lastSink = clause.word == HouseText.SINK ? clause.n : lastSink;
                lastDraught = clause.word == HouseText.DRAUGHT ? clause.n : lastDraught;
            }
            tellsSwell = anySwell;
            sink = lastSink;
            draught = lastDraught;
        }

        int total(int word, int[] facts) {
            int total = 0;
            for (Clause clause : clauses) {
                if (clause.word == word && clause.holds(facts)) {
                    total += clause.n;
                }
            }
            return total;
        }
    }

    /** One CLAUSE; its E stands in code with each sign behind what it joins. */
    private static final class Clause {
        static final int NOT = -1, AND = -2, OR = -3;
        private static final int LESS = 0, SAME = 1;
        final int word, n;
        private final int[] code;

        Clause(int word, int n, int[] code) {
            this.word = word;
            this.n = n;
            this.code = code;
        }

        static int codeOfTest(int letter, int relation, int number) {
            return (letter * 3 + relation) * 100 + number;
        }

        /** The truths wait as bits, the latest lowest: nesting is low, so they never fill a long. */
        boolean holds(int[] facts) {
            long truths = 0;
            for (int part : code) {
                switch (part) {
                    case NOT:
                        truths ^= 1;
                        break;
                    case AND:
                        truths = (truths >>> 1) & (truths | ~1L);
                        break;
                    case OR:
                        truths = (truths >>> 1) | (truths & 1);
                        break;
                    default:
                        truths = (truths << 1) | (testHolds(part, facts) ? 1 : 0);
                }
            }
            return (truths & 1) != 0;
        }

        private static boolean testHolds(int test, int[] facts) {
            int letter = test / 300;
            if (letter < 0 || letter >= facts.length) {
                return false;
            }
            int relation = test / 100 % 3;
            int number = test % 100;
            if (relation == LESS) {
                return facts[letter] < number;
            }
            return relation == SAME ? facts[letter] == number : facts[letter] > number;
        }
    }

    /** THE TEXT, and how a HOUSE is read from it. */
    private static final class HouseText {
        static final int WHOLE = -1;
        static final int SWELL = 0, DRAW = 1, SINK = 2, DRAUGHT = 3;
        private static final int WORDS = 4;
        private static final int MOST_SIGNS = 100, MOST_CLAUSES = 10, MOST_WITHIN = 4;
        private static final String LETTERS = "kdwspm";
        private static final String RELATIONS = "<=>";

        int length;
        private final int[] signs = new int[MOST_SIGNS];
        private int at;
        private final Clause[] clauses = new Clause[MOST_CLAUSES];
        private int clauseCount;
        private final int[] code = new int[MOST_SIGNS];
        private int codeLength;

        boolean append(int sign) {
            if (length >= MOST_SIGNS) {
                return false;
            }
            signs[length] = sign;
            length++;
            return true;
        }

        /** WHOLE, or the FAULT: no part is left behind before all of it is right, so it is always at. */
        int parse() {
            at = 0;
            clauseCount = 0;
            for (int c = 0; c < MOST_CLAUSES; c++) {
                if (c > 0 && !takes(';')) {
                    return at;
                }
                int word = takenWord();
                int n = word < 0 ? -1 : takenNumber();
                if (n < 0) {
                    return at;
                }
                codeLength = 0;
                if ((word == SWELL || word == DRAW) && !(takes(' ') && takesAnyOf(0))) {
                    return at;
                }
                clauses[c] = new Clause(word, n, Arrays.copyOf(code, codeLength));
                clauseCount = c + 1;
                if (at >= length) {
                    return WHOLE;
                }
            }
            return at;
        }

        House built() {
            Clause[] row = new Clause[clauseCount];
            for (int c = 0; c < clauseCount; c++) {
                row[c] = clauses[c];
            }
            return new House(row);
        }

        private boolean takesAnyOf(int depth) {
            if (!takesAllOf(depth)) {
                return false;
            }
            for (int more = 0; more < MOST_SIGNS && takes('|'); more++) {
                if (!takesAllOf(depth)) {
                    return false;
                }
                addCode(Clause.OR);
            }
            return true;
        }

        private boolean takesAllOf(int depth) {
            if (!takesFactor(depth)) {
                return false;
            }
            for (int more = 0; more < MOST_SIGNS && takes('&'); more++) {
                if (!takesFactor(depth)) {
                    return false;
                }
                addCode(Clause.AND);
            }
            return true;
        }

        private boolean takesFactor(int depth) {
            int inside = depth;
            while (inside < MOST_WITHIN && takes('!')) {
                inside++;
            }
            boolean whole = inside < MOST_WITHIN && takes('(')
                ? takesAnyOf(inside + 1) && takes(')')
                : takesTest();
            // Behind a FAULT the code is read by nobody, so NOT may stand there without what it turns.
            for (int nots = depth; nots < inside; nots++) {
                addCode(Clause.NOT);
            }
            return whole;
        }

        private boolean takesTest() {
            int letter = takenOneOf(LETTERS);
            int relation = letter < 0 ? -1 : takenOneOf(RELATIONS);
            int number = relation < 0 ? -1 : takenNumber();
            if (number < 0) {
                return false;
            }
            addCode(Clause.codeOfTest(letter, relation, number));
            return true;
        }

        private void addCode(int part) {
            if (codeLength < MOST_SIGNS) {
                code[codeLength] = part;
                codeLength++;
            }
        }

        private boolean takes(char sign) {
            boolean there = at < length && signs[at] == sign;
            at += there ? 1 : 0;
            return there;
        }

        private int takenOneOf(String choices) {
            int which = at < length ? choices.indexOf((char) signs[at]) : -1;
            at += which < 0 ? 0 : 1;
            return which;
        }

        private int takenNumber() {
            int n = -1;
            for (int digits = 0; digits < 2 && at < length && signs[at] >= '0' && signs[at] <= '9'; digits++) {
                n = Math.max(0, n) * 10 + signs[at] - '0';
                at++;
            }
            return n;
        }

        /** A word and the blank behind it; without one, at is where the longest beginning of one breaks off. */
        private int takenWord() {
            int longest = 0;
            for (int w = 0; w < WORDS; w++) {
                String word = wordOf(w);
                int alike = alikeWith(word);
                if (alike == word.length()) {
                    at += alike;
                    return w;
                }
                longest = Math.max(longest, alike);
            }
            at += longest;
            return -1;
        }

        private int alikeWith(String word) {
            int alike = 0;
            while (alike < word.length() && at + alike < length && signs[at + alike] == word.charAt(alike)) {
                alike++;
            }
            return alike;
        }

        private static String wordOf(int w) {
            switch (w) {
                case SWELL: return "swell ";
                case DRAW: return "draw ";
                case SINK: return "sink ";
                default: return "draught ";
            }
        }
    }

    /** ACTS and THE TRACE of the latest. */
    private static final class Acts {
        private static final int MOST_KEPT = 20, DEEPEST = 40;
        private static final int SWELLS = 0, HANGS = 1, TELLS = 2;
        final int[] kept = new int[MOST_KEPT];
        int ran;
        private int kind, v, number;

        void forget() {
            ran = 0;
        }

        int keptCount() {
            return Math.min(ran, MOST_KEPT);
        }

        int perform(Door door, int act, int x) {
            kind = door.kind;
            v = door.v;
            number = door.number;
            switch (act) {
                case SWELLS: return swells(this, kind, x, 0);
                case HANGS: return hangs(this, kind, x, 0);
                case TELLS: return tells(this, kind, x, 0);
                default: return 0;
            }
        }

        private void began(int body) {
            if (ran < MOST_KEPT) {
                kept[ran] = body;
            }
            ran++;
        }

        private static int above(int k) {
            return within(k, 1, KINDS - 1) ? ABOVE[k] : PLAIN;
        }

        /**
         * The body of KIND k, or of the next above it that has one; so hangs and tells, too. They are static, as
         * only a static method may call itself.
         */
        private static int swells(Acts acts, int k, int x, int depth) {
            if (depth > DEEPEST) {
                return 0;
            }
            switch (k) {
                case PLAIN:
                    acts.began(10);
                    return x + acts.number;
                case BOWED:
                    acts.began(30);
                    return swells(acts, above(BOWED), x * 3, depth + 1);
                case FRAMED:
                    acts.began(50);
                    return -swells(acts, above(FRAMED), x, depth + 1);
                case LEANED:
                    acts.began(71);
                    return swells(acts, above(LEANED), x, depth + 1) ^ acts.v;
                default:
                    return swells(acts, above(k), x, depth + 1);
            }
        }

        private static int hangs(Acts acts, int k, int x, int depth) {
            if (depth > DEEPEST) {
                return 0;
            }
            switch (k) {
                case PLAIN:
                    acts.began(11);
                    return swells(acts, acts.kind, x, depth + 1) - acts.v;
                case SWOLLEN:
                    acts.began(20);
                    return hangs(acts, above(SWOLLEN), x, depth + 1) ^ 6;
                case FRAMED:
                    acts.began(51);
                    return hangs(acts, above(FRAMED), x + 1, depth + 1);
                case LEANED:
                    acts.began(70);
                    return hangs(acts, above(LEANED), x, depth + 1) + swells(acts, above(LEANED), 2, depth + 1);
                default:
                    return hangs(acts, above(k), x, depth + 1);
            }
        }

        private static int tells(Acts acts, int k, int x, int depth) {
            if (depth > DEEPEST) {
                return 0;
            }
            switch (k) {
                case PLAIN:
                    acts.began(12);
                    return hangs(acts, acts.kind, x, depth + 1) * 2;
                case SAGGED:
                    acts.began(40);
                    return tells(acts, above(SAGGED), x, depth + 1) + hangs(acts, acts.kind, 1, depth + 1);
                case PLANED:
                    acts.began(60);
                    return tells(acts, above(PLANED), x - acts.number, depth + 1);
                default:
                    return tells(acts, above(k), x, depth + 1);
            }
        }
    }

    /** A row of items, kept in longs whatever its sort. */
    private static final class Tape {
        static final int HOLDS_NOTHING = -1, BYTES = 0, SHORTS = 1, INTS = 2, LONGS = 3, BOOLEANS = 4;
        static final int MOST_ITEMS = 60;
        int sort = HOLDS_NOTHING;
        private int length;
        final long[] items = new long[MOST_ITEMS];

        void becomeRow(int itsSort, int n) {
            sort = itsSort;
            length = n;
            Arrays.fill(items, 0);
        }

        boolean hasPlace(int i) {
            return within(i, 0, length - 1);
        }

        boolean hasPlaces(int i, int n) {
            return i >= 0 && n >= 0 && (long) i + n <= length;
        }

        long narrowed(long v) {
            switch (sort) {
                case BYTES: return (byte) v;
                case SHORTS: return (short) v;
                case INTS: return (int) v;
                case BOOLEANS: return v != 0 ? 1 : 0;
                default: return v;
            }
        }
    }
}
