/** The boundaries that each promise names: the first and last that it takes; each refusal, which changes nothing. */
public final class PromisesEdgesTests extends Edges {
    private static final int NO_DOOR = 3;

    public static void main(String[] args) {
        newObject();
        air();
        lean();
        door();
        of();
        water();
        sag();
        feed();
        house();
        houseRefuses();
        told();
        month();
        mend();
        run();
        first();
        worst();
        off();
        cheapest();
        why();
        odds();
        mean();
        changed();
        book();
        looked();
        judge();
        image();
        act();
        trace();
        taken();
        count();
        tape();
        item();
        read();
        shift();
        end("PromisesEdgesTests");
    }

    /** What is no number from least to most: next to it and far from it. */
    private static int[] beyond(int least, int most) {
        return new int[] {MIN, least - 1, most + 1, MAX};
    }

    private static void newObject() {
        sentence("Promise 1", "No DOORS, no HOUSE.");
        DoorSticks x = new DoorSticks();
        due("DOORS", x.count(0), 0);
        due("HOUSES", x.count(1), 0);
        due("DOOR 0", x.of(0, 0), -10001);
        due("sink", x.told(0), 0);
        due("draught", x.told(1), 9);
        due("rows", x.count(2), 0);
        due("THE TEXT", x.count(3), 0);
        due("bodies", x.count(4), 0);
        due("THE IMAGE", x.undo(), -3);
        DoorSticks used = rich();
        due("another object's", used.count(0), 3);
        due("DOORS still", x.count(0), 0);
        due("DOORS of one made then", new DoorSticks().count(0), 0);

        sentence("What it is", "An object is used for at most 512 calls after it has been made");
        DoorSticks most = new DoorSticks();
        for (int call = 1; call <= 512; call++) {
            due("call " + call, most.month(), call);
        }
    }

    // ---- airs, doors, houses

    private static void air() {
        sentence("Promise 2", "AIR of a MONTH (0 .. 11) becomes n (0 .. 99): what it was.");
        DoorSticks x = new DoorSticks();
        for (int m = 0; m < 12; m++) {
            due("was at first", x.air(m, 99), 50);
            due("was", x.air(m, 0), 99);
            due("was", x.air(m, m), 0);
        }
        for (int m = 0; m < 12; m++) {
            due("is", x.told(10 + m), m);
        }

        sentence("Promise 2", "NONE; BAD.");
        for (int m : beyond(0, 11)) {
            refused("air(" + m + ", 5)", y -> y.air(m, 5), -1);
            refused("air(" + m + ", 100)", y -> y.air(m, 100), -1);
        }
        for (int n : beyond(0, 99)) {
            refused("air(0, " + n + ")", y -> y.air(0, n), -2);
        }
    }

    private static void lean() {
        sentence("Promise 3", "LEAN becomes n (0 .. 20): what it was.");
        DoorSticks x = new DoorSticks();
        due("was at first", x.lean(20), 0);
        due("was", x.lean(0), 20);
        due("was", x.lean(7), 0);
        due("is", x.told(3), 7);

        sentence("Promise 3", "BAD.");
        for (int n : beyond(0, 20)) {
            refused("lean(" + n + ")", y -> y.lean(n), -2);
        }
    }

    private static void door() {
        sentence("Promise 4", "A DOOR: its number.");
        DoorSticks least = new DoorSticks();
        for (int d = 0; d < 4; d++) {
            due("its number", least.door(2 * d, 3 * d), d);
            due("its KIND", least.of(d, 0), 2 * d);
            due("its v", least.of(d, 1), 3 * d);
        }

        sentence("Promise 4", "NONE: kind; BAD: v; FULL: 4.");
        for (int kind : beyond(0, 6)) {
            refused("door(" + kind + ", 0)", y -> y.door(kind, 0), -1);
            refused("door(" + kind + ", 10)", y -> y.door(kind, 10), -1);
        }
        for (int v : beyond(0, 9)) {
            refused("door(0, " + v + ")", y -> y.door(0, v), -2);
        }
        DoorSticks x = rich();
        due("the fourth", x.door(6, 9), 3);
        due("a fifth", x.door(0, 0), -4);
        due("KIND of none", x.door(7, 0), -1);
        due("v of none", x.door(0, 10), -2);
        DoorSticks twin = rich();
        twin.door(6, 9);
        due("all then", shown(x), shown(twin));
    }

    private static void of() {
        sentence("Promise 5", "Of a DOOR what 0 KIND, 1 v, 2 WATER INSIDE, 3 OUTSIDE, 4 PAINT (1 INSIDE, 2 "
            + "OUTSIDE, together), 5 SAG, 6 PACK, 7 SWELL, 8 BEND, 9 HANG, 10 SPOTS where it RUBS (bits), 11 where "
            + "a DRAUGHT is (bits)");
        DoorSticks all = withDoors(0, 0, 6, 7);
        waters(all, 1, 99, 9);
        paint(all, 1, 1);
        all.sag(1, 11);
        pack(all, 1, 6);
        plane(all, 1, 0, 9);
        int[] want = {6, 7, 99, 9, 2, 11, 6, 2, 9, 12, 4 | 16 | 32, 1 | 2};
        for (int what = 0; what < 12; what++) {
            due("of(1, " + what + ")", all.of(1, what), want[what]);
        }
        DoorSticks none = withDoors(0, 0);
        waters(none, 0, 0, 0);
        for (int what = 0; what < 12; what++) {
            due("of(0, " + what + ") of nothing", none.of(0, what), 0);
        }
        DoorSticks each = withDoors(1, 9);
        each.lean(20);
        pack(each, 0, 9);
        each.sag(0, 14);
        due("all SPOTS RUB", each.of(0, 10), 63);
        each = withDoors(0, 0);
        waters(each, 0, 0, 0);
        house(each, "draught 3");
        due("a DRAUGHT at all SPOTS", each.of(0, 11), 63);

        sentence("Promise 5", "20 and a SPOT its CUT, 30 and a SPOT its GAP.");
        DoorSticks x = withDoors(0, 0);
        x.lean(1);
        for (int s = 0; s < 6; s++) {
            plane(x, 0, s, s);
        }
        int[] gaps = {3, 4, 4, 5, 8, 9};
        for (int s = 0; s < 6; s++) {
            due("CUT at " + s, x.of(0, 20 + s), 4 + s);
            due("GAP at " + s, x.of(0, 30 + s), gaps[s]);
        }

        sentence("Promise 5", "-10001: NONE.");
        for (int d : beyond(0, 2)) {
            refused("of(" + d + ", 0)", y -> y.of(d, 0), -10001);
        }
        for (int what : new int[] {MIN, -1, 12, 13, 19, 26, 29, 36, MAX}) {
            refused("of(0, " + what + ")", y -> y.of(0, what), -10001);
        }
        DoorSticks deep = withDoors(0, 0);
        deep.lean(6);
        due("GAP -2 is no refusal", deep.of(0, 30), -2);
        due("no DOOR at all", new DoorSticks().of(0, 30), -10001);
    }

    private static void water() {
        sentence("Promise 6", "WATER of a side (0, 1) becomes n (0 .. 99): what it was.");
        DoorSticks x = withDoors(0, 0, 0, 0);
        for (int side = 0; side < 2; side++) {
            due("was at first", x.water(1, side, 99), 50);
            due("was", x.water(1, side, 0), 99);
            due("was", x.water(1, side, 31 + side), 0);
        }
        due("INSIDE", x.of(1, 2), 31);
        due("OUTSIDE", x.of(1, 3), 32);

        sentence("Promise 6", "NONE; BAD.");
        for (int d : beyond(0, 2)) {
            refused("water(" + d + ", 0, 5)", y -> y.water(d, 0, 5), -1);
            refused("water(" + d + ", 0, 100)", y -> y.water(d, 0, 100), -1);
        }
        for (int side : beyond(0, 1)) {
            refused("water(0, " + side + ", 5)", y -> y.water(0, side, 5), -1);
            refused("water(0, " + side + ", -1)", y -> y.water(0, side, -1), -1);
        }
        for (int n : beyond(0, 99)) {
            refused("water(0, 1, " + n + ")", y -> y.water(0, 1, n), -2);
        }
    }

    private static void sag() {
        sentence("Promise 7", "SAG becomes n (0 .. 20): what it was.");
        DoorSticks x = withDoors(0, 0, 0, 0);
        due("was at first", x.sag(1, 20), 0);
        due("was", x.sag(1, 0), 20);
        due("was", x.sag(1, 7), 0);
        due("is", x.of(1, 5), 7);

        sentence("Promise 7", "NONE; BAD.");
        for (int d : beyond(0, 2)) {
            refused("sag(" + d + ", 5)", y -> y.sag(d, 5), -1);
            refused("sag(" + d + ", 21)", y -> y.sag(d, 21), -1);
        }
        for (int n : beyond(0, 20)) {
            refused("sag(0, " + n + ")", y -> y.sag(0, n), -2);
        }
    }

    private static void feed() {
        sentence("Promise 8", "A sign (0 .. 127) comes behind THE TEXT's: how many it has.");
        DoorSticks x = new DoorSticks();
        due("the least", x.feed(0), 1);
        due("the greatest", x.feed(127), 2);
        due("THE TEXT", x.count(3), 2);

        sentence("Promise 8", "BAD; FULL.");
        for (int sign : beyond(0, 127)) {
            refused("feed(" + sign + ")", y -> y.feed(sign), -2);
        }
        refused("feed(255)", y -> y.feed(255), -2);
        DoorSticks full = new DoorSticks();
        String most = "draught 2;sink 3;swell 1 (k=0|k=1|k=2|k=3|k=4|k=5|k=6|k=7|k=8|k=9"
            + "|k=10|k=11|k=12|k=13)&!m=0;draw 1 w";
        for (int i = 0; i < 99; i++) {
            due("signs", full.feed(most.charAt(i)), i + 1);
        }
        due("sign 100", full.feed(most.charAt(99)), 100);
        due("sign 101", full.feed('='), -4);
        due("sign 101 that is none", full.feed(128), -2);
        due("sign 101 that is none", full.feed(-1), -2);
        due("THE TEXT", full.count(3), 100);
        due("it is as it was", full.house(), -110);
        due("THE TEXT is empty then", full.feed('s'), 1);
    }

    private static void house() {
        sentence("Promise 9", "THE TEXT, which is empty then, is a HOUSE, and holds: its number.");
        DoorSticks x = new DoorSticks();
        for (int h = 0; h < 6; h++) {
            due("its number", house(x, "sink " + h + ";draught 1" + h), h);
            due("THE TEXT is empty", x.count(3), 0);
            due("it holds", x.told(0), h);
            due("it holds", x.told(1), 10 + h);
            due("HOUSES", x.count(1), h + 1);
        }

        sentence("Promise 9", "FULL: there are 6 (THE TEXT stays)");
        feed(x, "sink 7");
        due("a seventh", x.house(), -4);
        due("THE TEXT stays", x.count(3), 6);
        due("the sixth holds", x.told(0), 5);
        due("HOUSES", x.count(1), 6);
        x.feed('?');
        due("one that is none, too", x.house(), -4);
        due("THE TEXT stays", x.count(3), 7);
        DoorSticks empty = new DoorSticks();
        for (int h = 0; h < 6; h++) {
            house(empty, "sink 1");
        }
        due("an empty TEXT, too", empty.house(), -4);
    }

    private static void houseRefuses() {
        sentence("Promise 9", "-10 less the FAULT (the one that held holds).");
        DoorSticks x = new DoorSticks();
        due("an empty TEXT", x.house(), -10);
        due("a FAULT at 0", house(x, "x"), -10);
        due("none holds", x.told(1), 9);
        due("HOUSES", x.count(1), 0);
        due("the first", house(x, "sink 5;draught 2"), 0);
        due("a FAULT at the end", house(x, "sink 7;draught 3;"), -27);
        due("THE TEXT is empty then", x.count(3), 0);
        due("the one that held holds", x.told(0), 5);
        due("the one that held holds", x.told(1), 2);
        due("HOUSES", x.count(1), 1);
        due("the next's number", house(x, "sink 6"), 1);
        due("100 bytes without one", house(x, "swell 1 k=1" + "|k=10".repeat(17) + "|k=1"), 2);
        DoorSticks far = new DoorSticks();
        due("a FAULT at the end of 100 bytes", house(far, "swell 1 k=11" + "|k=1".repeat(21) + "|!k="), -110);
        due("a FAULT at the last of 100 bytes", house(far, "swell 1 k=11" + "|k=1".repeat(21) + "|k=k"), -109);
    }

    private static void told() {
        sentence("Promise 10", "What 0 sink, 1 draught, 2 MONTH, 3 LEAN, 10 and m AIR of MONTH m.");
        DoorSticks x = inHouse("sink 8;draught 7");
        x.lean(6);
        x.month();
        for (int m = 0; m < 12; m++) {
            x.air(m, 20 + m);
        }
        int[] want = {8, 7, 1, 6};
        for (int what = 0; what < 4; what++) {
            due("told(" + what + ")", x.told(what), want[what]);
        }
        for (int m = 0; m < 12; m++) {
            due("AIR of " + m, x.told(10 + m), 20 + m);
        }

        sentence("Promise 10", "NONE.");
        for (int what : new int[] {MIN, -1, 4, 5, 9, 22, 23, MAX}) {
            refused("told(" + what + ")", y -> y.told(what), -1);
        }
    }

    // ---- months, mends

    private static void month() {
        sentence("Promise 11", "A MONTH goes: which it is.");
        DoorSticks x = new DoorSticks();
        for (int m = 1; m <= 25; m++) {
            due("which it is", x.month(), m);
            due("MONTH", x.told(2), m);
        }

        sentence("Promise 11", "STATE: it is 9999.");
        // The document vouches for 512 calls, but there is no other way to MONTH 9999.
        DoorSticks late = inHouse("draw 1 m=2;sink 1", 0, 0);
        months(late, 9998);
        late.air(2, 90);
        late.air(3, 10);
        late.sag(0, 0);
        waters(late, 0, 50, 50);
        due("9998", late.told(2), 9998);
        due("the last", late.month(), 9999);
        due("WATER in AIR 2", late.of(0, 2), 70);
        due("SAG drawn in MONTH 2", late.of(0, 5), 1);
        due("no more", late.month(), -3);
        due("no more", late.month(), -3);
        due("MONTH", late.told(2), 9999);
        due("WATER", late.of(0, 2), 70);
        due("SAG", late.of(0, 5), 1);
    }

    private static void mend() {
        sentence("Promise 12", "A MEND (0 .. 4)");
        DoorSticks z = withDoors(0, 0);
        z.sag(0, 8);
        int[] was = {4, 0, 8, 0, 9};
        for (int m = 0; m < 5; m++) {
            due("MEND " + m, z.mend(0, m, 1, 5), was[m]);
        }

        sentence("Promise 12", "with where (a SPOT; of 3 a side; else it does not matter) and n (0 .. 9; of 2, 3 "
            + "it does not matter): what CUT, PACK, SAG, PAINT (0, 1) was.");
        for (int any : new int[] {MIN, -1, 6, 10, MAX}) {
            DoorSticks x = withDoors(0, 0);
            x.sag(0, 9);
            due("PACK anywhere", x.mend(0, 1, any, 9), 0);
            due("PACK anywhere", x.mend(0, 1, any, 0), 9);
            due("SCREWS anywhere by any n", x.mend(0, 2, any, any), 9);
            due("SCREWS anywhere by any n", x.mend(0, 2, any, any), 0);
            due("PAINT by any n", x.mend(0, 3, 0, any), 0);
            due("PAINT by any n", x.mend(0, 3, 0, any), 1);
            due("PAINT by any n", x.mend(0, 3, 1, any), 0);
            due("PAINT of both", x.of(0, 4), 3);
        }
        for (int s = 0; s < 6; s++) {
            DoorSticks x = withDoors(0, 0);
            due("PLANE by 9", x.mend(0, 0, s, 9), 4);
            due("STRIP by 9", x.mend(0, 4, s, 9), 13);
            due("PLANE by 0", x.mend(0, 0, s, 0), 4);
            due("STRIP by 0", x.mend(0, 4, s, 0), 4);
        }

        sentence("Promise 12", "NONE: door, mend, where; BAD: n.");
        for (int d : beyond(0, 2)) {
            for (int m = 0; m < 5; m++) {
                int of = m;
                refused("mend(" + d + ", " + m + ", 0, 1)", y -> y.mend(d, of, 0, 1), -1);
                refused("mend(" + d + ", " + m + ", 0, 10)", y -> y.mend(d, of, 0, 10), -1);
            }
        }
        for (int m : beyond(0, 4)) {
            refused("mend(0, " + m + ", 0, 1)", y -> y.mend(0, m, 0, 1), -1);
            refused("mend(0, " + m + ", 0, 10)", y -> y.mend(0, m, 0, 10), -1);
        }
        for (int s : beyond(0, 5)) {
            refused("PLANE at " + s, y -> y.mend(0, 0, s, 1), -1);
            refused("PLANE at " + s + " by 10", y -> y.mend(0, 0, s, 10), -1);
            refused("STRIP at " + s, y -> y.mend(0, 4, s, 1), -1);
            refused("STRIP at " + s + " by -1", y -> y.mend(0, 4, s, -1), -1);
        }
        for (int side : beyond(0, 1)) {
            refused("PAINT of " + side, y -> y.mend(0, 3, side, 1), -1);
        }
        for (int n : beyond(0, 9)) {
            refused("PLANE by " + n, y -> y.mend(0, 0, 5, n), -2);
            refused("PACK by " + n, y -> y.mend(0, 1, 9, n), -2);
            refused("STRIP by " + n, y -> y.mend(0, 4, 0, n), -2);
        }
    }

    // ---- what comes

    private static void run() {
        sentence("Promise 13", "RUN: what 0 .. 5 GAP at that SPOT, 6 WATER INSIDE, 7 OUTSIDE, 8 SAG.");
        DoorSticks x = rich();
        for (int s = 0; s < 6; s++) {
            due("GAP at " + s, x.run(1, 0, s), x.of(1, 30 + s));
        }
        due("INSIDE", x.run(1, 0, 6), x.of(1, 2));
        due("OUTSIDE", x.run(1, 0, 7), x.of(1, 3));
        due("SAG", x.run(1, 0, 8), x.of(1, 5));
        due("GAP -1 is no refusal", inLean(5).run(0, 0, 0), -1);

        sentence("Promise 13", "-10001: NONE; -10002: BAD.");
        for (int d : beyond(0, 2)) {
            refused("run(" + d + ", 1, 0)", y -> y.run(d, 1, 0), -10001);
            refused("run(" + d + ", 61, 0)", y -> y.run(d, 61, 0), -10001);
        }
        for (int what : beyond(0, 8)) {
            refused("run(0, 1, " + what + ")", y -> y.run(0, 1, what), -10001);
            refused("run(0, -1, " + what + ")", y -> y.run(0, -1, what), -10001);
        }
        for (int n : beyond(0, 60)) {
            refused("run(0, " + n + ", 0)", y -> y.run(0, n, 0), -10002);
            refused("run(0, " + n + ", 8)", y -> y.run(0, n, 8), -10002);
        }
    }

    private static DoorSticks inLean(int lean) {
        DoorSticks x = withDoors(0, 0);
        x.lean(lean);
        return x;
    }

    private static void first() {
        sentence("Promise 14", "FIRST: what 0 how many MONTHS, 1 the SPOT; -5.");
        due("GAP 0", inLean(4).first(0, 0), -5);
        due("GAP 0", inLean(4).first(0, 1), -5);
        due("GAP -1", inLean(5).first(0, 0), 0);
        due("GAP -1", inLean(5).first(0, 1), 0);

        sentence("Promise 14", "NONE.");
        for (int d : beyond(0, 2)) {
            refused("first(" + d + ", 0)", y -> y.first(d, 0), -1);
        }
        for (int what : beyond(0, 1)) {
            refused("first(0, " + what + ")", y -> y.first(0, what), -1);
        }
    }

    private static void worst() {
        sentence("Promise 15", "WORST: what 0 the least, 1 the greatest GAP.");
        DoorSticks x = inHouse("draw 3 m=0", 0, 0);
        due("the least", x.worst(0, 4, 1, 0), 1);
        due("the greatest", x.worst(0, 4, 1, 1), 4);

        sentence("Promise 15", "-10001: NONE: door, spot, what; -10002: BAD.");
        for (int d : beyond(0, 2)) {
            refused("worst(" + d + ", 0, 1, 0)", y -> y.worst(d, 0, 1, 0), -10001);
            refused("worst(" + d + ", 0, 61, 0)", y -> y.worst(d, 0, 61, 0), -10001);
        }
        for (int s : beyond(0, 5)) {
            refused("worst(0, " + s + ", 1, 0)", y -> y.worst(0, s, 1, 0), -10001);
            refused("worst(0, " + s + ", -1, 0)", y -> y.worst(0, s, -1, 0), -10001);
        }
        for (int what : beyond(0, 1)) {
            refused("worst(0, 0, 1, " + what + ")", y -> y.worst(0, 0, 1, what), -10001);
            refused("worst(0, 0, 61, " + what + ")", y -> y.worst(0, 0, 61, what), -10001);
        }
        for (int n : beyond(0, 60)) {
            refused("worst(0, 0, " + n + ", 0)", y -> y.worst(0, 0, n, 0), -10002);
            refused("worst(0, 5, " + n + ", 1)", y -> y.worst(0, 5, n, 1), -10002);
        }
        due("GAP -1 is no refusal", inLean(5).worst(0, 0, 60, 0), -1);
        due("GAP -2 is no refusal", inLean(6).worst(0, 1, 0, 1), -2);
    }

    private static void off() {
        sentence("Promise 16", "OFF at a SPOT; spot -1: FITS (0, 1).");
        DoorSticks x = inLean(5);
        due("FITS", x.off(0, -1), 1);
        int[] offs = {1, 1, 0, 0, 0, 0};
        for (int s = 0; s < 6; s++) {
            due("OFF at " + s, x.off(0, s), offs[s]);
        }
        plane(x, 0, 5, 6);
        due("does not FIT", x.off(0, -1), 0);

        sentence("Promise 16", "NONE.");
        for (int d : beyond(0, 2)) {
            refused("off(" + d + ", 0)", y -> y.off(d, 0), -1);
            refused("off(" + d + ", -1)", y -> y.off(d, -1), -1);
        }
        for (int s : beyond(-1, 5)) {
            refused("off(0, " + s + ")", y -> y.off(0, s), -1);
        }
    }

    private static void cheapest() {
        sentence("Promise 17", "CHEAPEST: what 0 the set (bits), 1 the cost.");
        due("the set", inLean(5).cheapest(0, 0), 1);
        due("the cost", inLean(5).cheapest(0, 1), 6);
        due("nothing to mend", inLean(4).cheapest(0, 0), 0);
        due("for nothing", inLean(4).cheapest(0, 1), 0);

        sentence("Promise 17", "NONE.");
        for (int d : beyond(0, 2)) {
            refused("cheapest(" + d + ", 0)", y -> y.cheapest(d, 0), -1);
        }
        for (int what : beyond(0, 1)) {
            refused("cheapest(0, " + what + ")", y -> y.cheapest(0, what), -1);
        }
    }

    private static void why() {
        sentence("Promise 18", "NONE; STATE: it does not RUB there.");
        for (int d : beyond(0, 2)) {
            refused("why(" + d + ", 0)", y -> y.why(d, 0), -1);
        }
        for (int s : beyond(0, 5)) {
            refused("why(0, " + s + ")", y -> y.why(0, s), -1);
        }
        DoorSticks x = withDoors(0, 0);
        x.lean(4);
        x.sag(0, 2);
        pack(x, 0, 2);
        for (int s = 0; s < 6; s++) {
            due("GAP above 0 at " + s, x.why(0, s), -3);
        }
        pack(x, 0, 2);
        waters(x, 0, 99, 79);
        due("GAP 0 at 0", x.why(0, 0), -3);
        due("GAP 0 at 1", x.why(0, 1), -3);
        due("GAP -2 at 2", x.why(0, 2), 1 | 8);
        plane(x, 0, 2, 2);
        due("GAP 0 at 2", x.why(0, 2), -3);
        plane(x, 0, 3, 2);
        due("GAP 0 at 3", x.why(0, 3), -3);
        x.sag(0, 8);
        due("GAP 0 at 4", x.why(0, 4), -3);
        due("GAP 0 at 5", x.why(0, 5), -3);
        refused("why(0, 5) of GAP 4", y -> y.why(0, 5), -3);
    }

    // ---- odds, changes, books

    private static void odds() {
        sentence("Promise 19", "part 0 above, 1 below the line. NO.");
        due("above", inLean(4).odds(0, 0), 0);
        due("below", inLean(4).odds(0, 1), 1);
        for (int d : beyond(0, 2)) {
            refused("odds(" + d + ", 0)", y -> y.odds(d, 0), NO);
        }
        for (int part : beyond(0, 1)) {
            refused("odds(0, " + part + ")", y -> y.odds(0, part), NO);
        }
        due("no DOOR at all", new DoorSticks().odds(0, 0), NO);
    }

    private static void mean() {
        sentence("Promise 20", "MEAN of a side, likewise. NO.");
        DoorSticks x = withDoors(0, 0);
        allAirs(x, 0);
        waters(x, 0, 1, 40);
        due("INSIDE above", x.mean(0, 0, 0), 1);
        due("OUTSIDE above", x.mean(0, 1, 0), 20);
        due("OUTSIDE below", x.mean(0, 1, 1), 1);
        for (int d : beyond(0, 2)) {
            refused("mean(" + d + ", 0, 0)", y -> y.mean(d, 0, 0), NO);
        }
        for (int side : beyond(0, 1)) {
            refused("mean(0, " + side + ", 0)", y -> y.mean(0, side, 0), NO);
        }
        for (int part : beyond(0, 1)) {
            refused("mean(0, 0, " + part + ")", y -> y.mean(0, 0, part), NO);
        }
    }

    private static void changed() {
        sentence("Promise 21", "CHANGED: what 0 how many, 1 the first (-5).");
        due("none", new DoorSticks().changed(0), 0);
        due("none", new DoorSticks().changed(1), -5);
        due("one DOOR", inLean(5).changed(0), 0);
        due("one DOOR", inLean(5).changed(1), -5);

        sentence("Promise 21", "NONE.");
        for (int what : beyond(0, 1)) {
            refused("changed(" + what + ")", y -> y.changed(what), -1);
        }
    }

    private static void book() {
        sentence("Promise 22", "(spot -1: it is empty then, 0, whatever the other is)");
        for (int any : new int[] {MIN, -100, -99, 0, 99, 100, MAX}) {
            DoorSticks x = withDoors(0, 0);
            due("empty already", x.book(-1, any), 0);
            for (int row = 1; row <= 12; row++) {
                due("how many there are", x.book(5, -9), row);
            }
            due("empty then", x.book(-1, any), 0);
            due("rows", x.count(2), 0);
            due("none is off", x.looked(0, 0), -5);
            due("the first again", x.book(0, -99), 1);
            due("and the next", x.book(5, 99), 2);
        }

        sentence("Promise 22", "NONE: spot; BAD: gap; FULL: 12.");
        for (int s : beyond(-1, 5)) {
            refused("book(" + s + ", 0)", y -> y.book(s, 0), -1);
            refused("book(" + s + ", 100)", y -> y.book(s, 100), -1);
        }
        for (int gap : beyond(-99, 99)) {
            refused("book(0, " + gap + ")", y -> y.book(0, gap), -2);
        }
        DoorSticks x = rich();
        DoorSticks twin = rich();
        for (int row = 4; row <= 12; row++) {
            due("row", x.book(row % 6, row), row);
            twin.book(row % 6, row);
        }
        due("row 13", x.book(0, 0), -4);
        due("row 13 of no SPOT", x.book(6, 0), -1);
        due("row 13 of no GAP", x.book(0, 100), -2);
        due("all then", shown(x), shown(twin));
    }

    private static void looked() {
        sentence("Promise 23", "LOOKED at; -5. NONE; BAD: n.");
        due("no row", inLean(9).looked(0, 0), -5);
        for (int d : beyond(0, 2)) {
            refused("looked(" + d + ", 0)", y -> y.looked(d, 0), -1);
            refused("looked(" + d + ", 10)", y -> y.looked(d, 10), -1);
        }
        for (int n : beyond(0, 9)) {
            refused("looked(0, " + n + ")", y -> y.looked(0, n), -2);
        }
        DoorSticks x = withDoors(0, 0);
        x.book(5, -5);
        due("9 off by 9", x.looked(0, 9), -5);
        due("9 off by 8", x.looked(0, 8), 0);
    }

    // ---- judging, the image, acts, tapes

    private static void judge() {
        sentence("Promise 24", "JUDGED from place i of a TAPE on for a DOOR. NONE: tape, door; CAST: it is no row "
            + "of shorts.");
        for (int t : beyond(0, 5)) {
            refused("judge(" + t + ", 0, 0)", y -> y.judge(t, 0, 0), -1);
        }
        for (int d : beyond(0, 2)) {
            refused("judge(0, 0, " + d + ")", y -> y.judge(0, 0, d), -1);
            refused("judge(2, 0, " + d + ") of bytes", y -> y.judge(2, 0, d), -1);
            refused("judge(4, 0, " + d + ") of nothing", y -> y.judge(4, 0, d), -1);
        }
        DoorSticks x = withDoors(0, 0);
        for (int sort = 0; sort < 5; sort++) {
            for (int n : new int[] {0, 6, 60}) {
                x.tape(0, sort, n);
                due("sort " + sort, x.judge(0, 0, 0), sort != 1 ? -12 : n == 0 ? 100 : 0);
                due("sort " + sort + " at -1", x.judge(0, -1, 0), sort != 1 ? -12 : 100);
                due("sort " + sort + " behind the end", x.judge(0, n, 0), sort != 1 ? -12 : 100);
            }
        }
        x.tape(0, -1, 0);
        due("nothing is no other sort", x.judge(0, 0, 0), 100);
    }

    private static void image() {
        sentence("Promise 25", "THE IMAGE is taken: how many DOORS there are.");
        DoorSticks x = new DoorSticks();
        for (int n = 0; n <= 4; n++) {
            due("DOORS", x.image(), n);
            x.door(n, n);
        }
        due("the newest IMAGE holds", x.undo(), 4);
        DoorSticks y = rich();
        String was = home(y);
        y.image();
        due("nothing else changes", home(y), was);

        sentence("Promise 26", "All is as THE IMAGE: how many DOORS.");
        DoorSticks z = new DoorSticks();
        z.image();
        z.door(0, 0);
        z.month();
        due("none", z.undo(), 0);
        due("none", z.count(0), 0);
        due("MONTH", z.told(2), 0);
        due("as often as one likes", z.undo(), 0);

        sentence("Promise 26", "STATE: there is none.");
        DoorSticks none = withDoors(1, 2);
        none.month();
        due("none was taken", none.undo(), -3);
        due("nothing changes", none.count(0), 1);
        due("nothing changes", none.told(2), 1);
    }

    private static void act() {
        sentence("Promise 27", "An ACT (0 swells, 1 hangs, 2 tells) of a DOOR with x.");
        DoorSticks z = withDoors(0, 0, 0, 2);
        int[] want = {6, 4, 8};
        for (int act = 0; act < 3; act++) {
            due("ACT " + act, z.act(1, act, 5), want[act]);
            due("bodies", z.count(4), act + 1);
        }

        sentence("Promise 27", "0, and no TRACE then: no such DOOR, act.");
        for (int d : beyond(0, 2)) {
            for (int act = 0; act < 3; act++) {
                noTrace(d, act);
            }
        }
        for (int act : beyond(0, 2)) {
            noTrace(1, act);
        }
        DoorSticks x = withDoors(0, 0);
        due("an ACT that answers 0", x.act(0, 0, 0), 0);
        due("has a TRACE", x.trace(0), 10);
        due("has a TRACE", x.count(4), 1);
        String was = home(rich());
        DoorSticks y = rich();
        y.act(0, 2, MAX);
        y.act(NO_DOOR, 2, MAX);
        due("no ACT changes else", home(y), was);
    }

    private static void noTrace(int door, int act) {
        DoorSticks x = rich();
        due("there is one", x.trace(0), 40);
        due("act(" + door + ", " + act + ", 5)", x.act(door, act, 5), 0);
        due("bodies", x.count(4), 0);
        for (int i = 0; i < 20; i++) {
            due("TRACE", x.trace(i), -1);
        }
    }

    private static void trace() {
        sentence("Promise 28", "THE TRACE's i-th body. NONE.");
        for (int i : beyond(0, 11)) {
            refused("trace(" + i + ")", y -> y.trace(i), -1);
        }
        int[] want = {40, 12, 70, 11, 71, 10, 10, 70, 11, 71, 10, 10};
        for (int i = 0; i < 12; i++) {
            due("body " + i, rich().trace(i), want[i]);
        }
        due("none yet", new DoorSticks().trace(0), -1);
    }

    private static void taken() {
        sentence("Promise 29", "A DOOR taken for one of KIND k (0 .. 6), or one under that: its KIND.");
        DoorSticks x = withDoors(6, 0, 0, 0);
        due("for itself", x.taken(0, 6), 6);
        due("for the one above", x.taken(0, 3), 6);
        due("for the one above that", x.taken(0, 0), 6);
        due("KIND 0 for itself", x.taken(1, 0), 0);

        sentence("Promise 29", "BAD: k; NOTHING: no such DOOR; CAST.");
        for (int k : beyond(0, 6)) {
            refused("taken(0, " + k + ")", y -> y.taken(0, k), -2);
            refused("taken(3, " + k + ")", y -> y.taken(NO_DOOR, k), -2);
        }
        for (int d : beyond(0, 2)) {
            refused("taken(" + d + ", 0)", y -> y.taken(d, 0), -11);
            refused("taken(" + d + ", 6)", y -> y.taken(d, 6), -11);
        }
        refused("SWOLLEN for FRAMED, under it", y -> y.taken(0, 4), -12);
        refused("SWOLLEN for BOWED, beside it", y -> y.taken(0, 2), -12);
        due("DOOR for LEANED", x.taken(1, 6), -12);
    }

    private static void count() {
        sentence("Promise 30", "How many: 0 DOORS, 1 HOUSES, 2 rows of the BOOK, 3 bytes of THE TEXT, 4 bodies "
            + "that ran in the latest act() (all, kept or not).");
        int[] want = {3, 1, 3, 4, 12};
        for (int what = 0; what < 5; what++) {
            due("count(" + what + ")", rich().count(what), want[what]);
            due("count(" + what + ") at first", new DoorSticks().count(what), 0);
        }

        sentence("Promise 30", "BAD.");
        for (int what : beyond(0, 4)) {
            refused("count(" + what + ")", y -> y.count(what), -2);
        }
    }

    private static void tape() {
        sentence("Promise 31", "A TAPE becomes a row of n (0 .. 60) of a sort, all 0, or holds nothing (sort -1: n "
            + "does not matter): 1.");
        for (int sort = 0; sort < 5; sort++) {
            DoorSticks x = new DoorSticks();
            due("60", x.tape(5, sort, 60), 1);
            for (int i = 0; i < 60; i++) {
                due("all 0", x.read(5, i), 0);
                x.item(5, i, 1);
            }
            due("item 60", x.item(5, 60, 1), -13);
            due("60 anew", x.tape(5, sort, 60), 1);
            due("all 0 anew", x.read(5, 0), 0);
            due("all 0 anew", x.read(5, 59), 0);
            due("1", x.tape(5, sort, 1), 1);
            due("item 0", x.item(5, 0, 1), 1);
            due("item 1", x.item(5, 1, 1), -13);
            due("0", x.tape(5, sort, 0), 1);
            due("item 0", x.item(5, 0, 1), -13);
            due("item 0", x.read(5, 0), NO);
        }
        for (int any : new int[] {MIN, -1, 0, 60, 61, MAX}) {
            DoorSticks x = new DoorSticks();
            x.tape(0, 0, 60);
            due("nothing", x.tape(0, -1, any), 1);
            due("nothing", x.item(0, 0, 1), -11);
            due("nothing", x.read(0, 0), NO);
            due("nothing once more", x.tape(0, -1, any), 1);
        }

        sentence("Promise 31", "NONE: tape; BAD: sort, n above 60; SIZE.");
        for (int t : beyond(0, 5)) {
            refused("tape(" + t + ", 0, 1)", y -> y.tape(t, 0, 1), -1);
            refused("tape(" + t + ", -1, 1)", y -> y.tape(t, -1, 1), -1);
            refused("tape(" + t + ", 5, 61)", y -> y.tape(t, 5, 61), -1);
        }
        for (int sort : beyond(-1, 4)) {
            refused("tape(0, " + sort + ", 1)", y -> y.tape(0, sort, 1), -2);
            refused("tape(0, " + sort + ", -1)", y -> y.tape(0, sort, -1), -2);
        }
        for (int sort = 0; sort < 5; sort++) {
            int of = sort;
            refused("61 of sort " + sort, y -> y.tape(0, of, 61), -2);
            refused("so many of sort " + sort, y -> y.tape(0, of, MAX), -2);
            refused("-1 of sort " + sort, y -> y.tape(0, of, -1), -14);
            refused("so few of sort " + sort, y -> y.tape(0, of, MIN), -14);
        }
    }

    private static void item() {
        sentence("Promise 32", "Item i of a TAPE becomes v (its lowest bits, as many as an item has; booleans: "
            + "whether v is not 0): 1.");
        long[] given = {127, 128, 255, 256, -128, -129, 32767, 32768, 65536, -32769, 0x7fffffffL, 0x80000000L, 1L << 32,
            -0x80000001L, Long.MAX_VALUE, Long.MIN_VALUE, 0, 1, -1, 2};
        for (long v : given) {
            DoorSticks x = new DoorSticks();
            long[] want = {(byte) v, (short) v, (int) v, v, v == 0 ? 0 : 1};
            for (int sort = 0; sort < 5; sort++) {
                x.tape(sort, sort, 3);
                due("1", x.item(sort, 1, v), 1);
                due("sort " + sort + " of " + v, x.read(sort, 1), want[sort]);
                due("the one ahead", x.read(sort, 0), 0);
                due("the one behind", x.read(sort, 2), 0);
            }
        }

        sentence("Promise 32", "NONE; NOTHING; PLACE.");
        for (int t : beyond(0, 5)) {
            refused("item(" + t + ", 0, 1)", y -> y.item(t, 0, 1), -1);
            refused("item(" + t + ", -1, 1)", y -> y.item(t, -1, 1), -1);
        }
        for (int i : new int[] {MIN, -1, 0, 1, MAX}) {
            refused("item(4, " + i + ", 1)", y -> y.item(4, i, 1), -11);
            refused("item(5, " + i + ", 1)", y -> y.item(5, i, 1), -11);
        }
        for (int i : beyond(0, 6)) {
            refused("item(0, " + i + ", 1)", y -> y.item(0, i, 1), -13);
        }
    }

    private static void read() {
        sentence("Promise 33", "NO: no such TAPE, nothing there, no such place.");
        for (int t : beyond(0, 5)) {
            refused("read(" + t + ", 0)", y -> y.read(t, 0), NO);
        }
        for (int i : new int[] {MIN, -1, 0, 59, MAX}) {
            refused("read(4, " + i + ")", y -> y.read(4, i), NO);
        }
        for (int i : beyond(0, 6)) {
            refused("read(0, " + i + ")", y -> y.read(0, i), NO);
        }
        due("the first", rich().read(0, 0), -7);
        due("the last", rich().read(0, 6), 1793);
    }

    /** A row of ints 1 .. 6, one of 11 .. 14; what both are then, as digits. */
    private static String shifted(int i, int other, int j, int n, int want) {
        DoorSticks x = new DoorSticks();
        x.tape(0, 2, 6);
        x.tape(1, 2, 4);
        for (int k = 0; k < 6; k++) {
            x.item(0, k, k + 1);
            x.item(1, k, k + 11);
        }
        due("shift(0, " + i + ", " + other + ", " + j + ", " + n + ")", x.shift(0, i, other, j, n), want);
        StringBuilder all = new StringBuilder();
        for (int k = 0; k < 6; k++) {
            all.append(x.read(0, k)).append(' ');
        }
        for (int k = 0; k < 4; k++) {
            all.append(x.read(1, k)).append(' ');
        }
        return all.toString().trim();
    }

    private static void shift() {
        sentence("Promise 34", "n items of a TAPE from i on come to another one (or the same) from j on, as they "
            + "all were before: n.");
        String was = "1 2 3 4 5 6 11 12 13 14";
        due("all of the other", shifted(0, 1, 0, 4, 4), "1 2 3 4 5 6 1 2 3 4");
        due("its end", shifted(5, 1, 3, 1, 1), "1 2 3 4 5 6 11 12 13 6");
        due("onward over itself", shifted(0, 0, 1, 5, 5), "1 1 2 3 4 5 11 12 13 14");
        due("back over itself", shifted(1, 0, 0, 5, 5), "2 3 4 5 6 6 11 12 13 14");
        due("all of itself", shifted(0, 0, 0, 6, 6), was);
        due("none", shifted(0, 1, 0, 0, 0), was);
        due("none at the ends", shifted(6, 1, 4, 0, 0), was);

        sentence("Promise 34", "PLACE: n, i or j is below 0, or beyond either's end.");
        int[][] places = {{0, 1, 0, -1}, {0, 1, 0, MIN}, {-1, 1, 0, 1}, {MIN, 1, 0, 1}, {0, 1, -1, 1}, {0, 1, MIN, 1},
            {0, 1, 0, 5}, {0, 1, 1, 4}, {0, 1, 4, 1}, {6, 1, 0, 1}, {4, 1, 0, 3}, {7, 1, 0, 0}, {0, 1, 5, 0},
            {-1, 1, 0, 0}, {0, 1, -1, 0}, {MAX, 1, 0, 1}, {0, 1, MAX, 1}, {0, 1, 0, MAX}, {1, 1, 1, MAX},
            {MAX, 1, MAX, MAX}, {0, 0, 1, 6}, {1, 0, 0, 6}, {MAX, 0, MAX, 2}, {1, 0, -1, 1}};
        for (int[] p : places) {
            due("all behind", shifted(p[0], p[1], p[2], p[3], -13), was);
        }

        sentence("Promise 34", "NONE: tapes; NOTHING; CAST: of unlike sorts");
        for (int t : beyond(0, 5)) {
            refused("shift(" + t + ", 0, 0, 0, 1)", y -> y.shift(t, 0, 0, 0, 1), -1);
            refused("shift(0, 0, " + t + ", 0, 1)", y -> y.shift(0, 0, t, 0, 1), -1);
            refused("shift(4, 0, " + t + ", 0, -1)", y -> y.shift(4, 0, t, 0, -1), -1);
            refused("shift(" + t + ", 0, 4, 0, -1)", y -> y.shift(t, 0, 4, 0, -1), -1);
        }
        refused("from nothing", y -> y.shift(4, 0, 0, 0, 0), -11);
        refused("to nothing", y -> y.shift(0, 0, 4, 0, 0), -11);
        refused("of nothing to nothing", y -> y.shift(4, 0, 5, 0, 0), -11);
        refused("of nothing ahead of PLACE", y -> y.shift(4, -1, 0, -1, -1), -11);
        refused("to nothing ahead of PLACE", y -> y.shift(0, -1, 4, -1, -1), -11);
        for (int a = 0; a < 4; a++) {
            for (int b = 0; b < 4; b++) {
                int from = a;
                int to = b;
                if (a != b && a + b != 1) {
                    refused("sorts of " + a + " and " + b, y -> y.shift(from, 0, to, 0, 1), -12);
                    refused("CAST ahead of PLACE", y -> y.shift(from, -1, to, -1, -1), -12);
                }
            }
        }
    }
}
