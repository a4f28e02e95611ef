/** The boundaries that the Terms name in their last two parts: what is asked, acts, the image; tapes, answers. */
public final class AskedEdgesTests extends Edges {
    private static final String TERMS = "Terms";

    public static void main(String[] args) {
        goesOn();
        beyond9999();
        run();
        first();
        worst();
        off();
        fits();
        cheapestCuts();
        cheapestPack();
        cheapestScrewsAndPaint();
        cheapestOfAll();
        why();
        odds();
        mean();
        changed();
        book();
        looked();
        bodiesWrap();
        bodiesOfKinds();
        supers();
        trace();
        image();
        tapes();
        judged();
        refusals();
        answers();
        end("AskedEdgesTests");
    }

    // ---- what is asked, goes on

    private static void goesOn() {
        sentence(TERMS, "All that follows is asked, goes on from how all is (MONTHS also beyond 9999), and changes "
            + "nothing.");
        String was = shown(rich());
        DoorSticks x = rich();
        for (int d = 0; d < 3; d++) {
            for (int what = 0; what < 9; what++) {
                x.run(d, 30, what);
            }
            for (int what = 0; what < 2; what++) {
                x.first(d, what);
                x.worst(d, 2, 60, what);
                x.cheapest(d, what);
                x.odds(d, what);
                x.mean(d, what, what);
                x.changed(what);
            }
            x.off(d, -1);
            x.off(d, 2);
            x.why(d, 2);
            x.looked(d, 0);
        }
        due("all behind what was asked", shown(x), was);
        DoorSticks on = inHouse("draw 2 m=2", 0, 0);
        on.air(2, 90);
        due("from MONTH 0", on.run(0, 1, 6), 50);
        months(on, 2);
        due("from MONTH 2", on.run(0, 1, 6), 70);
        due("from MONTH 2", on.run(0, 1, 8), 2);
        on.month();
        due("from MONTH 3", on.run(0, 1, 6), 60);
        due("from MONTH 3", on.run(0, 0, 8), 2);
    }

    private static void beyond9999() {
        sentence(TERMS, "(MONTHS also beyond 9999)");
        // The document vouches for 512 calls, but there is no other way to MONTH 9999, which is 3 modulo 12.
        DoorSticks x = inHouse("sink 5;draw 1 m=2", 0, 0);
        months(x, 9999);
        x.lean(0);
        x.sag(0, 0);
        x.air(3, 90);
        due("AIR 3", x.run(0, 1, 6), 70);
        due("LEAN behind 8", x.run(0, 8, 0), 4);
        due("LEAN behind 9", x.run(0, 9, 0), -1);
        due("FIRST RUBS", x.first(0, 0), 9);
        due("SAG behind 60", x.run(0, 60, 8), 5);
        due("OFF", x.off(0, 0), 1);
        due("ODDS", x.odds(0, 1), 1);
        due("MONTH stays", x.told(2), 9999);
    }

    private static void run() {
        sentence(TERMS, "RUN of a DOOR, n MONTHS (0 .. 60): GAP at a SPOT then; WATER, SAG.");
        DoorSticks x = inHouse("draw 1 m=11;sink 1;swell 1 w>6", 0, 0, 3, 2);
        x.air(0, 90);
        for (int s = 0; s < 6; s++) {
            due("behind 0 MONTHS it is as it is", x.run(1, 0, s), x.of(1, 30 + s));
        }
        due("WATER behind 0", x.run(0, 0, 6), 50);
        due("WATER behind 0", x.run(0, 0, 7), 50);
        due("SAG behind 0", x.run(0, 0, 8), 0);
        due("SAG behind 59", x.run(0, 59, 8), 4);
        due("SAG behind 60", x.run(0, 60, 8), 5);
        due("LEAN behind 59", x.run(0, 59, 0), 0);
        due("LEAN behind 60", x.run(0, 60, 0), -1);
        due("HANG behind 60", x.run(1, 60, 4), 4 - 7);
        due("SWELL behind 1", x.run(0, 1, 2), 4 - 3);
        due("61", x.run(0, 61, 0), -10002);
        due("-1", x.run(0, -1, 0), -10002);
        months(x, 11);
        due("AIR of MONTH 11", x.run(0, 1, 6), 51);
        due("AIR of MONTH 0 again: 39 by 2 more", x.run(0, 2, 6), 70);
        DoorSticks most = inHouse("draw 7 k=0;sink 9", 0, 0);
        due("SAG 14", most.run(0, 2, 8), 14);
        due("SAG 20 at most", most.run(0, 3, 8), 20);
        due("LEAN 18", most.run(0, 24, 0), 4 - 18);
        due("LEAN 20 at most", most.run(0, 36, 0), 4 - 20);
        due("LEAN 20 at most", most.run(0, 60, 0), 4 - 20);
    }

    private static void first() {
        sentence(TERMS, "FIRST of a DOOR: behind how many MONTHS (0 .. 60) it first RUBS anywhere (-5: never by "
            + "then); where (the least SPOT).");
        DoorSticks x = inHouse("sink 1", 0, 0);
        due("LEAN 5 behind 60", x.first(0, 0), 60);
        due("of 0 and 1", x.first(0, 1), 0);
        plane(x, 0, 0, 1);
        due("LEAN 5 behind 60", x.first(0, 0), 60);
        due("at 1 alone", x.first(0, 1), 1);
        plane(x, 0, 1, 1);
        due("LEAN 6 behind 72", x.first(0, 0), -5);
        due("nowhere", x.first(0, 1), -5);
        months(x, 11);
        due("LEAN 6 behind 61", x.first(0, 0), -5);
        due("nowhere", x.first(0, 1), -5);
        x.month();
        due("LEAN 6 behind 60", x.first(0, 0), 60);
        x.lean(5);
        due("GAP 0 now", x.first(0, 0), 12);
        x.lean(6);
        due("GAP -1 now", x.first(0, 0), 0);
        due("now at 0", x.first(0, 1), 0);
        x.lean(0);
        pack(x, 0, 5);
        due("now at 5", x.first(0, 0), 0);
        due("now at 5", x.first(0, 1), 5);
        x.sag(0, 10);
        due("at 2, 4, 5", x.first(0, 1), 2);
        plane(x, 0, 2, 9);
        due("at 4, 5", x.first(0, 1), 4);
        DoorSticks wet = withDoors(1, 9);
        plane(wet, 0, 2, 9);
        due("at 3 alone", wet.first(0, 1), 3);
        DoorSticks back = inHouse("swell 5 w>6", 0, 0);
        back.air(0, 90);
        due("RUBS behind 1, and not behind 2", back.first(0, 0), 1);
    }

    private static void worst() {
        sentence(TERMS, "WORST of a SPOT in n MONTHS (0 .. 60): the least GAP behind 0 .. n MONTHS; the greatest.");
        // WATER 50, 70, 40, 45; SWELL 10, 14, 8, 9.
        DoorSticks x = inHouse("swell 4 w<99;draw 1 m=11", 0, 0);
        x.air(0, 90);
        x.air(1, 10);
        int[] least = {-6, -10, -10, -10};
        int[] greatest = {-6, -6, -4, -4};
        for (int n = 0; n < 4; n++) {
            due("least of " + n, x.worst(0, 2, n, 0), least[n]);
            due("greatest of " + n, x.worst(0, 2, n, 1), greatest[n]);
        }
        due("behind 59, least", x.worst(0, 4, 59, 0), 0);
        due("behind 60, least", x.worst(0, 4, 60, 0), -1);
        due("behind 59, greatest", x.worst(0, 1, 59, 1), 8);
        due("behind 60, greatest", x.worst(0, 1, 60, 1), 9);
        due("behind 0, greatest", x.worst(0, 4, 60, 1), 4);
        due("behind 0, least", x.worst(0, 1, 60, 0), 4);
        DoorSticks late = inHouse("swell 4 w<99", 0, 0);
        months(late, 11);
        late.air(11, 90);
        late.air(0, 10);
        due("SWELL 14 by AIR 11", late.worst(0, 2, 2, 0), -10);
        due("SWELL 8 by AIR 0 behind it", late.worst(0, 2, 2, 1), -4);
        due("not yet", late.worst(0, 2, 1, 1), -6);
        due("61", x.worst(0, 0, 61, 0), -10002);
        due("-1", x.worst(0, 0, -1, 0), -10002);
        for (int s = 0; s < 6; s++) {
            due("SPOT " + s, x.worst(0, s, 0, 0), x.of(0, 30 + s));
            due("SPOT " + s, x.worst(0, s, 0, 1), x.of(0, 30 + s));
        }
    }

    // ---- OFF, FITS

    /** A DOOR of no SWELL, HANG, BEND, so that each GAP is CUT, but at 0, 1 for LEAN. */
    private static DoorSticks dry(String text) {
        DoorSticks x = inHouse(text, 0, 0);
        allAirs(x, 0);
        waters(x, 0, 0, 0);
        return x;
    }

    private static void off() {
        sentence(TERMS, "OFF of a DOOR at a SPOT: by how much, at least, CUT there must be more now so that it "
            + "RUBS there behind none of 0 .. 12 MONTHS (CUT also above 99).");
        DoorSticks x = dry("sink 0");
        x.lean(4);
        due("GAP 0", x.off(0, 0), 0);
        x.lean(5);
        due("GAP -1", x.off(0, 0), 1);
        x.lean(20);
        due("GAP -16", x.off(0, 0), 16);
        plane(x, 0, 0, 15);
        due("15 more is not enough", x.off(0, 0), 1);
        plane(x, 0, 0, 1);
        due("16 more is", x.off(0, 0), 0);
        due("the other SPOT", x.off(0, 1), 16);

        DoorSticks wet = inHouse("swell 2 k=0", 0, 0);
        waters(wet, 0, 99, 99);
        due("behind 0: SWELL 9", wet.off(0, 2), 5);
        due("behind 0: SWELL 9", wet.off(0, 3), 5);

        DoorSticks drawn = inHouse("draw 5 m=0");
        drawn.month();
        drawn.door(0, 0);
        due("SAG behind 11", drawn.run(0, 11, 8), 0);
        due("behind 12", drawn.off(0, 4), 1);

        DoorSticks sunk = dry("sink 3");
        months(sunk, 11);
        due("LEAN 6 behind 13", sunk.off(0, 0), 0);
        sunk.month();
        due("LEAN 6 behind 12", sunk.off(0, 0), 2);

        DoorSticks above = inHouse("swell 99 k=0", 0, 0);
        plane(above, 0, 2, 95);
        due("CUT 99, SWELL 247", above.off(0, 2), 148);
        due("CUT 4, SWELL 247", above.off(0, 3), 243);
    }

    private static void fits() {
        sentence(TERMS, "FITS: whether, with that done at all SPOTS, there is no DRAUGHT at any SPOT behind any of "
            + "these.");
        for (int s = 0; s < 6; s++) {
            DoorSticks x = dry("sink 0");
            plane(x, 0, s, 5);
            due("GAP 9 at " + s, x.off(0, -1), 1);
            plane(x, 0, s, 1);
            due("GAP 10 at " + s, x.off(0, -1), 0);
        }
        // SWELL 19 now, so OFF 15; it dries to SWELL 0 with CUT 19.
        due("with OFF done: GAP 19", drying("swell 4 k=0;draught 19").off(0, -1), 1);
        due("with OFF done: GAP 19", drying("swell 4 k=0;draught 18").off(0, -1), 0);

        DoorSticks now = dry("sink 1");
        plane(now, 0, 0, 6);
        months(now, 11);
        due("GAP 10 now alone", now.off(0, -1), 0);
        now.month();
        due("GAP 9 now", now.off(0, -1), 1);

        DoorSticks late = inHouse("draw 3 m=11", 0, 0);
        months(late, 11);
        due("GAP 10 at 1 behind 13", late.off(0, -1), 1);
        late.month();
        due("GAP 10 at 1 behind 12", late.off(0, -1), 0);

        DoorSticks far = inHouse("swell 99 k=0;draught 99", 0, 0);
        due("CUT 247, GAP 0", far.off(0, -1), 1);
        due("CUT 490, GAP 486 when it is dry", drying("swell 99 k=0;draught 99").off(0, -1), 0);
    }

    private static DoorSticks drying(String text) {
        DoorSticks x = inHouse(text, 0, 0);
        allAirs(x, 0);
        waters(x, 0, 99, 99);
        return x;
    }

    // ---- CHEAPEST

    private static void cheapest(String what, DoorSticks x, int set, int cost) {
        due(what + ": the set", x.cheapest(0, 0), set);
        due(what + ": the cost", x.cheapest(0, 1), cost);
    }

    private static void cheapestCuts() {
        sentence(TERMS, "0 CUTS at all SPOTS become OFF more (as OFF is with the others done; CUT also above 99; 3 "
            + "for each SPOT at which OFF is above 0)");
        DoorSticks x = withDoors(0, 0);
        pack(x, 0, 5);
        cheapest("one SPOT", x, 1, 3);
        x.lean(4);
        cheapest("OFF 0 at 0, 1", x, 1, 3);
        x.lean(5);
        cheapest("three SPOTS", x, 1, 9);
        DoorSticks swollen = withDoors(1, 3);
        swollen.lean(5);
        pack(swollen, 0, 5);
        cheapest("five SPOTS", swollen, 1, 15);

        DoorSticks above = inHouse("swell 99 k=0", 0, 0);
        plane(above, 0, 2, 95);
        cheapest("CUT 99, and 148 more", above, 1, 6);

        // With SCREWS OFF is above 0 at 0 and 1, without at 0, 2 and 4.
        DoorSticks others = withDoors(0, 0);
        others.lean(5);
        others.sag(0, 7);
        cheapest("as OFF is with SCREWS done", others, 5, 8);
        // With PACK OFF is above 0 at 0, 2 and 5, without at 0, 2, 4 and 5.
        DoorSticks packed = withDoors(1, 3);
        packed.lean(5);
        packed.sag(0, 10);
        pack(packed, 0, 5);
        cheapest("as OFF is with PACK done", packed, 3, 10);
    }

    private static void cheapestPack() {
        sentence(TERMS, "1 PACK is 2 more (9 at most; 1)");
        DoorSticks x = withDoors(0, 0);
        x.sag(0, 4);
        cheapest("HANG 4 becomes 2", x, 2, 1);
        x.sag(0, 5);
        cheapest("HANG 5 becomes 3: not enough", x, 4, 2);
        DoorSticks full = withDoors(0, 0);
        plane(full, 0, 5, 9);
        plane(full, 0, 2, 9);
        pack(full, 0, 8);
        full.sag(0, 14);
        cheapest("PACK 8 becomes 9: HANG 5 of 4", full, 4, 2);
        plane(full, 0, 4, 1);
        cheapest("PACK 8 becomes 9: HANG 5 of 5", full, 2, 1);
        pack(full, 0, 1);
        cheapest("PACK 9", full, 0, 0);
        full.sag(0, 15);
        cheapest("PACK 9 becomes no more", full, 4, 2);
        DoorSticks itself = withDoors(0, 0);
        pack(itself, 0, 3);
        plane(itself, 0, 2, 9);
        itself.sag(0, 9);
        cheapest("PACK 5 would RUB at 5", itself, 4, 2);
    }

    private static void cheapestScrewsAndPaint() {
        sentence(TERMS, "2 SCREWS (2)");
        DoorSticks x = withDoors(0, 0);
        x.sag(0, 20);
        cheapest("SAG 0", x, 4, 2);
        DoorSticks again = dry("draw 5 m=0");
        again.sag(0, 5);
        cheapest("SAG 0, drawn to 5 again: PACK, too", again, 6, 3);
        again = dry("draw 4 m=0");
        again.sag(0, 5);
        cheapest("SAG 0, drawn to 4 again", again, 4, 2);

        sentence(TERMS, "3 PAINT of both sides (5)");
        // WATER becomes 70 without, 62 with one side, 55 with both.
        DoorSticks paint = inHouse("swell 3 w>5", 0, 0);
        paint.air(0, 90);
        cheapest("PAINT of both sides", paint, 8, 5);
        paint(paint, 0, 1);
        cheapest("PAINT of the other", paint, 8, 5);
        paint(paint, 0, 0);
        cheapest("PAINT there is", paint, 0, 0);
        DoorSticks one = inHouse("swell 3 w>5", 0, 0);
        one.air(0, 90);
        plane(one, 0, 3, 9);
        cheapest("one CUT for 3", one, 1, 3);
    }

    private static void cheapestOfAll() {
        sentence(TERMS, "that by which it RUBS nowhere behind any of 0 .. 12 MONTHS and which costs least (of "
            + "several the least as bits); what it costs.");
        cheapest("nothing", withDoors(0, 0), 0, 0);
        DoorSticks just = withDoors(0, 0);
        just.lean(4);
        cheapest("GAP 0", just, 0, 0);
        cheapest("RUBS now alone", drying("swell 2 k=0"), 1, 6);
        DoorSticks sunk = dry("sink 3");
        months(sunk, 11);
        cheapest("RUBS behind 13", sunk, 0, 0);
        sunk.month();
        cheapest("RUBS behind 12", sunk, 1, 6);
        // At 4 alone: CUT for 3, or PACK and SCREWS for 3.
        DoorSticks even = inHouse("draw 2 m=0", 0, 0);
        even.sag(0, 7);
        plane(even, 0, 2, 9);
        strip(even, 0, 4, 4);
        cheapest("1 ahead of 6", even, 1, 3);
        // CUT 0 at 4 asks for PACK and SCREWS, 2 and 3 for PAINT, 0 can only be CUT.
        DoorSticks all = inHouse("swell 9 w>5;draw 1 m=0", 0, 0);
        all.air(0, 90);
        all.lean(5);
        all.sag(0, 7);
        plane(all, 0, 1, 9);
        strip(all, 0, 4, 4);
        cheapest("all four", all, 15, 11);
    }

    // ---- WHY

    /** WHY at 2 of a DOOR with CUT 4, SWELL, HANG and BEND (0 .. 3) there. */
    private static int whyAt2(int swell, int hang, int bend) {
        DoorSticks x = withDoors(1, swell);
        waters(x, 0, 0, 10 * bend);
        x.sag(0, hang);
        return x.why(0, 2);
    }

    private static void why() {
        sentence(TERMS, "WHY of a DOOR that RUBS at a SPOT now: of these, by which alone it would not RUB there, "
            + "together: 1 SWELL being 0, 2 HANG being 0, 4 LEAN being 0 (in GAP itself, HANG as it is), 8 BEND "
            + "being 0.");
        due("GAP 0", whyAt2(2, 1, 1), -3);
        due("each of three", whyAt2(2, 2, 2), 1 | 2 | 8);
        due("SWELL, just so", whyAt2(4, 1, 3), 1);
        due("HANG, just so", whyAt2(1, 4, 3), 2);
        due("BEND, just so", whyAt2(2, 2, 3), 8);
        due("SWELL and HANG", whyAt2(3, 2, 0), 1 | 2);
        due("none alone", whyAt2(3, 3, 3), 0);
        due("none alone, just not", whyAt2(3, 2, 3), 0);
        DoorSticks x = withDoors(1, 9);
        x.sag(0, 2);
        due("at 3 HANG being 0 is no help", x.why(0, 3), 1);
        x.lean(4);
        due("at 0 GAP 0", x.why(0, 0), -3);
        x.lean(5);
        due("at 0 LEAN", x.why(0, 0), 4);
        due("at 1 HANG helps already", x.why(0, 1), -3);
        x.lean(7);
        due("at 1 LEAN", x.why(0, 1), 4);
        strip(x, 0, 1, 4);
        x.lean(3);
        due("at 1 HANG 2, LEAN 3 of CUT 0", x.why(0, 1), 4);
        x.sag(0, 0);
        due("at 1 LEAN, just so", x.why(0, 1), 4);
        strip(x, 0, 0, 4);
        due("at 0 LEAN, just so", x.why(0, 0), 4);
        x.sag(0, 4);
        due("at 4 GAP 0", x.why(0, 4), -3);
        x.sag(0, 5);
        due("at 4 HANG", x.why(0, 4), 2);
        pack(x, 0, 4);
        due("at 5 GAP 0", x.why(0, 5), -3);
        pack(x, 0, 1);
        due("at 5 none", x.why(0, 5), 0);
        DoorSticks leaned = withDoors(6, 0);
        leaned.lean(10);
        due("HANG is 5 as it is, with LEAN being 0", leaned.why(0, 4), 2);
        due("at 1 with HANG as it is", leaned.why(0, 1), 4);
        DoorSticks later = inHouse("sink 20", 0, 0);
        due("now, not later", later.why(0, 0), -3);
    }

    // ---- ODDS, MEAN, CHANGED

    private static void odds() {
        sentence(TERMS, "if AIR of the next MONTH were that of any of the MONTHS 0 .. 11, each as likely");
        for (int m = 0; m < 12; m++) {
            DoorSticks x = inHouse("swell 2 w>5", 0, 0);
            x.air(m, 90);
            due("MONTH " + m + " alone, above", x.odds(0, 0), 1);
            due("MONTH " + m + " alone, below", x.odds(0, 1), 12);
            due("mean, above", x.mean(0, 0, 0), 155);
            due("mean, below", x.mean(0, 0, 1), 3);
            months(x, 13);
            waters(x, 0, 50, 50);
            due("whichever MONTH it is, above", x.odds(0, 0), 1);
            due("whichever MONTH it is, below", x.odds(0, 1), 12);
            due("whichever MONTH it is, mean", x.mean(0, 0, 0), 155);
        }

        sentence(TERMS, "how likely a DOOR RUBS somewhere behind it: a fraction in lowest terms.");
        int[][] lowest = {{0, 1}, {1, 12}, {1, 6}, {1, 4}, {1, 3}, {5, 12}, {1, 2}, {7, 12}, {2, 3}, {3, 4}, {5, 6},
            {11, 12}, {1, 1}};
        for (int k = 0; k <= 12; k++) {
            // In AIR 50 SWELL is 5, so it RUBS; in AIR 20 WATER becomes 35, and SWELL 0.
            DoorSticks x = inHouse("swell 2 w>4", 0, 0);
            for (int m = k; m < 12; m++) {
                x.air(m, 20);
            }
            due(k + " of 12, above", x.odds(0, 0), lowest[k][0]);
            due(k + " of 12, below", x.odds(0, 1), lowest[k][1]);
        }
        DoorSticks now = inHouse("swell 9 w>5", 0, 0);
        waters(now, 0, 99, 99);
        allAirs(now, 0);
        due("behind it, not now", now.odds(0, 0), 0);
        DoorSticks just = withDoors(0, 0);
        pack(just, 0, 4);
        due("GAP 0", just.odds(0, 0), 0);
        pack(just, 0, 1);
        due("GAP -1 at 5 alone", just.odds(0, 0), 1);

        sentence(TERMS, "(all else goes as it would, MONTH, too)");
        DoorSticks sunk = inHouse("sink 5;draw 5 m=10", 0, 0);
        months(sunk, 10);
        due("SAG is drawn in MONTH 10", sunk.odds(0, 0), 1);
        due("SAG is drawn in MONTH 10", sunk.odds(0, 1), 1);
        sunk.month();
        sunk.sag(0, 0);
        due("LEAN sinks behind MONTH 11", sunk.odds(0, 0), 1);
        sunk.month();
        sunk.lean(0);
        due("neither", sunk.odds(0, 0), 0);
        due("neither", sunk.odds(0, 1), 1);
    }

    private static void mean() {
        sentence(TERMS, "MEAN: the mean of WATER of a side (0, 1) behind it, likewise.");
        DoorSticks x = withDoors(0, 0);
        int[] sums = {0, 99 * 12, 12, 6, 1};
        int[][] means = {{0, 1}, {99, 1}, {1, 1}, {1, 2}, {1, 12}};
        for (int i = 0; i < sums.length; i++) {
            for (int m = 0; m < 12; m++) {
                // WATER 0 becomes AIR by 2; WATER 99 stays in AIR 99.
                x.air(m, i == 1 ? 99 : m < sums[i] ? 2 : 0);
            }
            for (int side = 0; side < 2; side++) {
                waters(x, 0, 7, 7);
                x.water(0, side, i == 1 ? 99 : 0);
                due("above, of side " + side, x.mean(0, side, 0), means[i][0]);
                due("below, of side " + side, x.mean(0, side, 1), means[i][1]);
            }
        }
        DoorSticks y = withDoors(0, 0);
        y.air(7, 99);
        paint(y, 0, 1);
        due("INSIDE 11 of 50 and a 74", y.mean(0, 0, 0), 52);
        due("INSIDE 11 of 50 and a 74", y.mean(0, 0, 1), 1);
        due("OUTSIDE 11 of 50 and a 56", y.mean(0, 1, 0), 101);
        due("OUTSIDE 11 of 50 and a 56", y.mean(0, 1, 1), 2);
    }

    private static void changed() {
        sentence(TERMS, "if all their CUTS were changed with one another");
        for (int s = 0; s < 6; s++) {
            // DOOR 0 RUBS at s alone; DOOR 1 would not there, but at 0, where both lack by LEAN alone.
            DoorSticks z = inHouse("swell 0 k=0", 0, 0, 0, 0);
            for (int other = 0; other < 6; other++) {
                plane(z, 0, other, other == s ? 0 : 90);
                plane(z, 1, other, other == s ? 0 : 90);
            }
            z.lean(s < 2 ? 20 : 0);
            z.sag(1, s == 1 ? 20 : 0);
            waters(z, 0, 0, s == 2 || s == 3 ? 99 : 0);
            z.sag(0, s == 4 ? 20 : 0);
            pack(z, 0, s == 5 ? 9 : 0);
            due("DOOR 0 RUBS", z.of(0, 10), 1 << s);
            due("CUTS alike at " + s, z.changed(0), 0);
            plane(z, 1, s, 90);
            due("DOOR 1 RUBS", z.of(1, 10), 0);
            due("CUTS unlike at " + s, z.changed(0), s == 0 ? 0 : 1);
        }

        sentence(TERMS, "SPOTS at which the two RUB now, together, would be fewer: how many; the first (10 times "
            + "the lesser number, and the other one; -5).");
        DoorSticks x = new DoorSticks();
        due("no DOOR", x.changed(0), 0);
        due("no DOOR", x.changed(1), -5);
        x.door(0, 0);
        pack(x, 0, 5);
        due("one DOOR", x.changed(0), 0);
        due("one DOOR", x.changed(1), -5);
        changed("equal CUTS", new int[] {5, 0}, new int[] {4, 4}, 0, -5);
        changed("none RUBS", new int[] {4, 0}, new int[] {4, 5}, 0, -5);
        changed("CUT 5 for PACK 5", new int[] {5, 0}, new int[] {4, 5}, 1, 1);
        changed("as many", new int[] {5, 5}, new int[] {4, 5}, 0, -5);
        changed("CUT 5 is not enough", new int[] {6, 0}, new int[] {4, 5}, 0, -5);
        changed("2 and 3", new int[] {0, 0, 0, 5}, new int[] {4, 4, 5, 4}, 1, 23);
        changed("0 and 3", new int[] {5, 0, 0, 0}, new int[] {4, 4, 4, 5}, 1, 3);
        changed("1 with each", new int[] {0, 5, 0, 0}, new int[] {5, 4, 5, 5}, 3, 1);
        changed("1 and 2, 2 and 3", new int[] {0, 0, 5, 0}, new int[] {4, 5, 4, 5}, 2, 12);
        changed("all that have PACK 5 with all that have CUT 5", new int[] {5, 0, 0, 5}, new int[] {4, 5, 5, 4}, 4, 1);
        // What is less at 5 is more at 4.
        DoorSticks y = withDoors(0, 0, 0, 0);
        pack(y, 0, 5);
        plane(y, 1, 5, 1);
        strip(y, 1, 4, 4);
        y.sag(0, 6);
        due("1 at 5 less, 1 at 4 more", y.changed(0), 0);
        y.sag(0, 5);
        due("1 at 5 less, HANG 0 at 4", y.changed(0), 1);
        allSix();
    }

    /** DOORS with such PACKS and CUTS at 5, at which alone they can RUB. */
    private static void changed(String what, int[] packs, int[] cuts, int pairs, int foremost) {
        DoorSticks x = new DoorSticks();
        for (int d = 0; d < packs.length; d++) {
            x.door(0, 0);
            pack(x, d, packs[d]);
            plane(x, d, 5, cuts[d] - 4);
        }
        due(what + ": how many", x.changed(0), pairs);
        due(what + ": the first", x.changed(1), foremost);
    }

    /** Each DOOR RUBS by something else, and with its own CUTS: by SWELL at 3, PACK at 5, HANG at 4, BEND at 2. */
    private static void allSix() {
        DoorSticks x = inHouse("swell 0 k=0", 1, 8, 0, 0, 0, 0, 0, 0);
        for (int d = 0; d < 4; d++) {
            waters(x, d, 0, d == 3 ? 99 : 0);
            for (int s = 0; s < 6; s++) {
                boolean own = s == new int[] {3, 5, 4, 2}[d];
                plane(x, d, s, own ? 0 : 90);
            }
        }
        plane(x, 0, 3, 3);
        pack(x, 1, 9);
        x.sag(2, 20);
        plane(x, 3, 2, 4);
        for (int d = 0; d < 4; d++) {
            due("DOOR " + d + " RUBS at one SPOT", Integer.bitCount(x.of(d, 10)), 1);
        }
        due("six pairs", x.changed(0), 6);
        due("the first is 0 and 1", x.changed(1), 1);
    }

    // ---- a BOOK

    private static void book() {
        sentence(TERMS, "A BOOK told by hand: rows (12 at most) of a SPOT and a GAP (-99 .. 99) behind 0, 1, 2 .. "
            + "MONTHS");
        DoorSticks x = new DoorSticks();
        due("none", x.count(2), 0);
        for (int row = 1; row <= 12; row++) {
            due("row", x.book(row % 6, row % 2 == 0 ? 99 : -99), row);
        }
        due("row 13", x.book(0, 0), -4);
        due("rows", x.count(2), 12);
        DoorSticks y = new DoorSticks();
        due("GAP 100", y.book(0, 100), -2);
        due("GAP -100", y.book(0, -100), -2);
        due("SPOT 6", y.book(6, 0), -1);
        due("SPOT 0", y.book(0, 0), 1);
        due("SPOT 5", y.book(5, 0), 2);
        DoorSticks z = inHouse("draw 1 m<12", 0, 0);
        for (int m = 0; m < 12; m++) {
            z.book(4, 4 - m);
        }
        due("behind 0 .. 11", z.looked(0, 0), -5);
        z.month();
        due("behind 0 it is the first", z.looked(0, 0), 0);
    }

    private static void looked() {
        sentence(TERMS, "LOOKED at for a DOOR by n (0 .. 9): the first row that is more than n off what RUN tells "
            + "(-5: none).");
        DoorSticks x = dry("sink 0");
        due("no rows", x.looked(0, 0), -5);
        for (int n = 0; n <= 9; n++) {
            for (int way = -1; way <= 1; way += 2) {
                x.book(-1, 0);
                x.book(5, 4);
                x.book(5, 4 + way * n);
                due("n off", x.looked(0, n), -5);
                x.book(5, 4 + way * (n + 1));
                due("more than n off", x.looked(0, n), 2);
                x.book(5, 99);
                due("the first", x.looked(0, n), 2);
            }
        }
        due("n -1", x.looked(0, -1), -2);
        due("n 10", x.looked(0, 10), -2);
        DoorSticks last = inHouse("draw 1 m=10", 0, 0);
        for (int row = 0; row < 12; row++) {
            last.book(4, 4);
        }
        due("the last row, behind 11", last.looked(0, 0), 11);
        due("GAP beyond a row's", far().looked(0, 9), 0);
    }

    private static DoorSticks far() {
        DoorSticks x = inHouse("swell 99 k=0", 0, 0);
        x.book(2, -99);
        return x;
    }

    // ---- ACTS

    /** KIND, v of a DOOR that comes as i. */
    private static DoorSticks asDoor(int i, int kind, int v) {
        DoorSticks x = new DoorSticks();
        for (int d = 0; d < i; d++) {
            x.door(0, 9);
        }
        x.door(kind, v);
        return x;
    }

    private static void act(String what, int i, int kind, int v, int act, int x, int want) {
        due(what, asDoor(i, kind, v).act(i, act, x), want);
    }

    private static void bodiesWrap() {
        sentence(TERMS, "ACTS of a DOOR with x (wrapping): 0 swells, 1 hangs, 2 tells; i its number.");
        act("10: x + i", 1, 0, 0, 0, MAX, MIN);
        act("10: x + i", 3, 0, 0, 0, MAX - 1, MIN + 1);
        act("10: x + i, not yet", 3, 0, 0, 0, MAX - 3, MAX);
        act("11: less v", 0, 0, 1, 1, MIN, MAX);
        act("11: less v", 0, 0, 9, 1, MIN + 8, MAX);
        act("12: * 2", 0, 0, 0, 2, 1 << 30, MIN);
        act("12: * 2", 0, 0, 0, 2, MIN, 0);
        act("12: * 2", 0, 0, 0, 2, MAX, -2);
        act("20: ^ 6", 0, 1, 1, 1, MIN, MAX - 6);
        act("30: x * 3", 0, 2, 0, 0, 1 << 30, -(1 << 30));
        act("30: x * 3", 0, 2, 0, 0, MAX, MAX - 2);
        act("30: x * 3", 0, 2, 0, 0, MIN, MIN);
        act("40: and hangs(1)", 1, 3, 0, 2, (1 << 30) - 2, MIN);
        act("50: less than 0", 0, 4, 0, 0, MIN, MIN);
        act("51: x + 1", 0, 4, 1, 1, MAX, MAX - 6);
        act("60: x - i", 1, 5, 0, 2, MIN, -4);
        act("70: and super.swells(2)", 0, 6, 0, 1, MAX, MIN + 1);
        act("71: x + i, ^ v", 1, 6, 9, 0, MAX, MIN + 9);
    }

    private static void traced(DoorSticks x, int act, int given, int want, int... bodies) {
        due("act " + act + " of KIND " + x.of(0, 0), x.act(0, act, given), want);
        due("bodies", x.count(4), bodies.length);
        for (int b = 0; b < bodies.length; b++) {
            due("body " + b, x.trace(b), bodies[b]);
        }
        due("no more", x.trace(bodies.length), -1);
    }

    private static void bodiesOfKinds() {
        sentence(TERMS, "swells(..) and so on: the body of its KIND, or, if that has none, of the next KIND above "
            + "that has one");
        traced(withDoors(0, 2), 0, 5, 5, 10);
        traced(withDoors(1, 2), 0, 5, 5, 10);
        traced(withDoors(2, 2), 0, 5, 15, 30, 10);
        traced(withDoors(3, 2), 0, 5, 5, 10);
        traced(withDoors(4, 2), 0, 5, -5, 50, 10);
        traced(withDoors(5, 2), 0, 5, 15, 30, 10);
        traced(withDoors(6, 2), 0, 5, 7, 71, 10);
        traced(withDoors(6, 2), 0, 7, 5, 71, 10);
        traced(withDoors(0, 2), 1, 5, 3, 11, 10);
        traced(withDoors(1, 2), 1, 5, 5, 20, 11, 10);
        traced(withDoors(2, 2), 1, 5, 13, 11, 30, 10);
        traced(withDoors(3, 2), 1, 5, 3, 11, 10);
        traced(withDoors(5, 2), 1, 5, 13, 11, 30, 10);
        traced(withDoors(0, 2), 2, 5, 6, 12, 11, 10);
        traced(withDoors(1, 2), 2, 5, 10, 12, 20, 11, 10);
        traced(withDoors(2, 2), 2, 5, 26, 12, 11, 30, 10);
    }

    private static void supers() {
        sentence(TERMS, "super.swells(..): so from the KIND above the body's on; all that stands in a body is done "
            + "from the left on.");
        traced(withDoors(4, 2), 1, 5, -8 ^ 6, 51, 20, 11, 50, 10);
        traced(withDoors(4, 2), 2, 5, 2 * (-8 ^ 6), 12, 51, 20, 11, 50, 10);
        traced(withDoors(5, 2), 2, 5, 26, 60, 12, 11, 30, 10);
        // Not the 71 of its own: 70's super.swells(2) goes on from SAGGED.
        traced(withDoors(6, 2), 1, 5, 7 - 2 + 2, 70, 11, 71, 10, 10);
        traced(withDoors(3, 2), 2, 5, 6 - 1, 40, 12, 11, 10, 11, 10);
        traced(withDoors(6, 2), 2, 5, 14 + (3 - 2 + 2), 40, 12, 70, 11, 71, 10, 10, 70, 11, 71, 10, 10);
    }

    private static void trace() {
        sentence(TERMS, "THE TRACE: the numbers of the bodies that ran in the latest act(), as they began; the "
            + "first 20 are kept.");
        DoorSticks x = withDoors(6, 0, 0, 0);
        due("none yet", x.trace(0), -1);
        due("none yet", x.count(4), 0);
        x.act(0, 2, 1);
        int[] most = {40, 12, 70, 11, 71, 10, 10, 70, 11, 71, 10, 10};
        due("the most that can run", x.count(4), 12);
        for (int i = 0; i < 12; i++) {
            due("all are kept: " + i, x.trace(i), most[i]);
        }
        due("behind", x.trace(12), -1);
        due("ahead", x.trace(-1), -1);
        due("behind all that are kept", x.trace(20), -1);
        x.act(1, 0, 1);
        due("the latest's", x.trace(0), 10);
        due("the latest's", x.count(4), 1);
        due("nothing of the one before", x.trace(1), -1);
    }

    private static void image() {
        sentence(TERMS, "THE IMAGE: AIR, DOORS with all that is theirs, LEAN, MONTH, the BOOK, which HOUSE holds.");
        DoorSticks was = rich();
        was.undo();
        DoorSticks x = rich();
        x.door(4, 4);
        x.house();
        house(x, "sink 9;draught 1;swell 7 k=4");
        x.month();
        x.lean(11);
        x.air(11, 1);
        x.water(0, 1, 1);
        x.mend(1, 3, 1, 0);
        x.sag(1, 1);
        x.mend(1, 1, 0, 3);
        x.mend(2, 4, 4, 5);
        x.mend(2, 0, 0, 5);
        x.book(-1, 0);
        x.book(1, 1);
        due("DOORS", x.undo(), 3);
        due("all is as THE IMAGE", home(x), home(was));
        due("HOUSES are not of it", x.count(1), 2);
        x.sag(2, 3);
        due("THE IMAGE is as it was taken", x.undo(), 3);
        due("all is as THE IMAGE", home(x), home(was));
        most();
        DoorSticks none = new DoorSticks();
        due("no DOORS", none.image(), 0);
        house(none, "sink 4;draught 2");
        house(none, "sink 5;draught 3");
        none.door(0, 0);
        due("no DOORS", none.undo(), 0);
        due("no HOUSE held", none.told(0), 0);
        due("no HOUSE held", none.told(1), 9);
        due("no DOOR", none.of(0, 0), -10001);
        due("it comes as new", none.door(0, 0), 0);
    }

    /** THE IMAGE of as many DOORS, months and rows as there can be. */
    private static void most() {
        DoorSticks x = new DoorSticks();
        for (int i = 0; i < 12; i++) {
            x.air(i, 40 + i);
            x.book(i / 2, i);
            x.door(i % 7, i % 10);
        }
        for (int d = 0; d < 4; d++) {
            waters(x, d, 10 * d, 90 - 10 * d);
            x.sag(d, 20 - d);
            pack(x, d, 9 - d);
            paint(x, d, d % 2);
            for (int s = 0; s < 6; s++) {
                plane(x, d, s, d + s);
            }
        }
        String was = home(x);
        due("as many DOORS as there can be", x.image(), 4);
        allAirs(x, 99);
        x.book(-1, 0);
        for (int row = 0; row < 12; row++) {
            x.book(0, 99);
        }
        for (int d = 0; d < 4; d++) {
            waters(x, d, 99, 99);
            x.sag(d, 1);
            paint(x, d, 1 - d % 2);
            for (int s = 0; s < 6; s++) {
                strip(x, d, s, 9);
            }
        }
        due("as many DOORS as there can be", x.undo(), 4);
        due("all is as THE IMAGE", home(x), was);
        due("rows", x.count(2), 12);
        onlyLastRow();
    }

    private static void onlyLastRow() {
        DoorSticks x = withDoors(0, 0);
        for (int row = 0; row < 12; row++) {
            x.book(5, row < 11 ? 4 : 3);
        }
        x.image();
        x.book(-1, 0);
        for (int row = 0; row < 12; row++) {
            x.book(4, 4);
        }
        due("no row is off", x.looked(0, 0), -5);
        x.undo();
        due("the last row's GAP", x.looked(0, 0), 11);
        x.book(-1, 0);
        for (int row = 0; row < 12; row++) {
            x.book(row < 11 ? 5 : 4, 4);
        }
        x.image();
        pack(x, 0, 1);
        x.book(-1, 0);
        for (int row = 0; row < 12; row++) {
            x.book(5, 4);
        }
        x.undo();
        due("the last row's SPOT", x.looked(0, 0), -5);
        x.sag(0, 1);
        due("the last row's SPOT", x.looked(0, 0), 11);
    }

    // ---- TAPES

    private static void tapes() {
        sentence(TERMS, "TAPES 0 .. 5 hold nothing (at first), or a row of 0 bytes, 1 shorts, 2 ints, 3 longs, 4 "
            + "booleans (items 0, 1).");
        DoorSticks x = new DoorSticks();
        for (int t = 0; t < 6; t++) {
            due("nothing at first", x.item(t, 0, 1), -11);
            due("nothing at first", x.read(t, 0), NO);
        }
        due("TAPE -1", x.tape(-1, 0, 1), -1);
        due("TAPE 6", x.tape(6, 0, 1), -1);
        due("sort 5", x.tape(0, 5, 1), -2);
        due("sort -2", x.tape(0, -2, 1), -2);
        long[][] ends = {{Byte.MIN_VALUE, Byte.MAX_VALUE}, {Short.MIN_VALUE, Short.MAX_VALUE}, {MIN, MAX},
            {Long.MIN_VALUE, Long.MAX_VALUE}, {0, 1}};
        for (int sort = 0; sort < 5; sort++) {
            due("a row", x.tape(5, sort, 1), 1);
            due("all 0", x.read(5, 0), 0);
            x.item(5, 0, ends[sort][0]);
            due("the least", x.read(5, 0), ends[sort][0]);
            x.item(5, 0, ends[sort][1]);
            due("the greatest", x.read(5, 0), ends[sort][1]);
            x.item(5, 0, ends[sort][1] + 1);
            due("1 more", x.read(5, 0), sort == 4 ? 1 : ends[sort][0]);
            x.item(5, 0, ends[sort][0] - 1);
            due("1 less", x.read(5, 0), ends[sort][1]);
        }
    }

    private static void judged() {
        sentence(TERMS, "GAPS of a DOOR told by a row of shorts, from a place on, SPOT by SPOT, are JUDGED: the "
            + "first at which it is otherwise; -5: none, or there is none to look at; 100 and how many were looked "
            + "at, if the row ends ahead of that (or the place is below 0, or the TAPE holds nothing).");
        DoorSticks x = withDoors(0, 0);
        int[] cuts = {5, 7, 9, 11, 13, 15};
        for (int s = 0; s < 6; s++) {
            plane(x, 0, s, cuts[s] - 4);
        }
        due("nothing", x.judge(0, 0, 0), 100);
        due("nothing, at -1", x.judge(0, -1, 0), 100);
        int[] gaps = {5, 7, 7, 9, 13, 15};
        for (int n = 0; n <= 6; n++) {
            x.tape(1, 1, n);
            for (int i = 0; i < n; i++) {
                x.item(1, i, gaps[i]);
            }
            due("a row of " + n, x.judge(1, 0, 0), n == 6 ? -5 : 100 + n);
            due("behind its end", x.judge(1, n, 0), 100);
            due("far behind", x.judge(1, MAX, 0), 100);
            due("at -1", x.judge(1, -1, 0), 100);
            due("at the least", x.judge(1, MIN, 0), 100);
        }
        for (int s = 0; s < 6; s++) {
            x.item(1, s, gaps[s] + 1);
            due("otherwise at " + s, x.judge(1, 0, 0), s);
            x.item(1, s, gaps[s]);
        }
        x.tape(2, 1, 60);
        x.shift(1, 0, 2, 54, 6);
        due("from 54 on", x.judge(2, 54, 0), -5);
        due("from 53 on", x.judge(2, 53, 0), 0);
        x.shift(1, 0, 2, 55, 5);
        due("from 55 on: the row ends behind 5", x.judge(2, 55, 0), 105);
        x.item(2, 59, 0);
        due("otherwise ahead of the end", x.judge(2, 55, 0), 4);
        DoorSticks far = inHouse("swell 99 k=0;swell 99 k=0;swell 99 k=0", 0, 0);
        waters(far, 0, 99, 99);
        far.tape(0, 1, 4);
        for (int s = 0; s < 4; s++) {
            far.item(0, s, far.of(0, 30 + s));
        }
        due("GAP far below 0", far.judge(0, 0, 0), 104);
    }

    private static void refusals() {
        sentence(TERMS, "NOTHING (-11): nothing is there");
        refused("item of nothing", x -> x.item(4, 0, 1), -11);
        refused("no DOOR to be taken", x -> x.taken(3, 0), -11);
        refused("shift from nothing", x -> x.shift(4, 0, 0, 0, 1), -11);
        refused("shift to nothing", x -> x.shift(0, 0, 5, 0, 1), -11);

        sentence(TERMS, "CAST (-12): another sort or KIND");
        refused("shift of another sort", x -> x.shift(0, 0, 2, 0, 1), -12);
        refused("judge of another sort", x -> x.judge(2, 0, 0), -12);
        refused("taken for another KIND", x -> x.taken(0, 4), -12);

        sentence(TERMS, "PLACE (-13): no such place");
        refused("item behind the end", x -> x.item(0, 7, 1), -13);
        refused("shift beyond the end", x -> x.shift(0, 6, 1, 0, 2), -13);

        sentence(TERMS, "SIZE (-14): a size below 0.");
        refused("a size of -1", x -> x.tape(0, 0, -1), -14);
    }

    private static void answers() {
        sentence(TERMS, "NONE (-1) no such number; BAD (-2) a number is not as told; STATE (-3) as told; FULL (-4)");
        due("NONE", DoorSticks.NONE, -1);
        due("BAD", DoorSticks.BAD, -2);
        due("STATE", DoorSticks.STATE, -3);
        due("FULL", DoorSticks.FULL, -4);

        sentence(TERMS, "the first that a call's words name");
        refused("air", x -> x.air(12, 100), -1);
        refused("door", x -> x.door(7, 10), -1);
        DoorSticks full = withDoors(0, 0, 0, 0, 0, 0, 0, 0);
        due("door: NONE ahead of FULL", full.door(7, 0), -1);
        due("door: BAD ahead of FULL", full.door(0, 10), -2);
        refused("water", x -> x.water(3, 0, 100), -1);
        refused("water", x -> x.water(0, 2, 100), -1);
        refused("sag", x -> x.sag(3, 21), -1);
        refused("mend", x -> x.mend(3, 0, 0, 10), -1);
        refused("mend", x -> x.mend(0, 5, 0, 10), -1);
        refused("mend", x -> x.mend(0, 0, 6, 10), -1);
        refused("run", x -> x.run(3, 61, 0), -10001);
        refused("run", x -> x.run(0, 61, 9), -10001);
        refused("worst", x -> x.worst(3, 0, 61, 0), -10001);
        refused("worst", x -> x.worst(0, 6, 61, 0), -10001);
        refused("worst", x -> x.worst(0, 0, 61, 2), -10001);
        refused("why", x -> x.why(3, 2), -1);
        refused("book", x -> x.book(6, 100), -1);
        refused("looked", x -> x.looked(3, 10), -1);
        refused("judge", x -> x.judge(2, 0, 3), -1);
        refused("judge", x -> x.judge(6, 0, 0), -1);
        refused("taken", x -> x.taken(3, 7), -2);
        refused("tape", x -> x.tape(6, 5, -1), -1);
        refused("tape", x -> x.tape(0, 5, -1), -2);
        refused("item", x -> x.item(6, -1, 0), -1);
        refused("item", x -> x.item(4, -1, 0), -11);
        refused("shift", x -> x.shift(6, -1, 4, -1, -1), -1);
        refused("shift", x -> x.shift(4, -1, 6, -1, -1), -1);
        refused("shift", x -> x.shift(4, -1, 0, -1, -1), -11);
        refused("shift", x -> x.shift(0, -1, 4, -1, -1), -11);
        refused("shift", x -> x.shift(0, -1, 2, -1, -1), -12);
        DoorSticks rows = new DoorSticks();
        for (int row = 0; row < 12; row++) {
            rows.book(0, 0);
        }
        due("book: NONE ahead of FULL", rows.book(6, 0), -1);
        due("book: BAD ahead of FULL", rows.book(0, 100), -2);
        DoorSticks text = new DoorSticks();
        feed(text, "s".repeat(100));
        due("feed: BAD ahead of FULL", text.feed(128), -2);

        sentence(TERMS, "What is answered so changes nothing; what is asked changes nothing.");
        for (int n = -1; n <= 36; n++) {
            int i = n;
            asked("of", x -> x.of(0, i));
            asked("told", x -> x.told(i));
            asked("run", x -> x.run(1, i, 8));
            asked("trace", x -> x.trace(i));
        }
        for (int n = -1; n <= 7; n++) {
            int i = n;
            asked("worst", x -> x.worst(2, i, 60, 0));
            asked("off", x -> x.off(1, i));
            asked("why", x -> x.why(0, i));
            asked("first", x -> x.first(i, 0));
            asked("cheapest", x -> x.cheapest(i, 1));
            asked("odds", x -> x.odds(i, 0));
            asked("mean", x -> x.mean(i, 1, 0));
            asked("changed", x -> x.changed(i));
            asked("looked", x -> x.looked(i, 9));
            asked("judge", x -> x.judge(i, 0, 0));
            asked("taken", x -> x.taken(2, i));
            asked("count", x -> x.count(i));
            asked("read", x -> x.read(i, 1));
        }
        DoorSticks last = rich();
        last.image();
        due("an act() changes no more than THE TRACE", last.act(2, 0, 5), 17);
        String then = home(last);
        last.undo();
        due("an act() changes no more than THE TRACE", home(last), then);

        sentence(TERMS, "`NO = Long.MIN_VALUE`");
        due("NO", DoorSticks.NO, Long.MIN_VALUE);
        refused("no such DOOR", x -> x.odds(3, 0), Long.MIN_VALUE);
    }
}
