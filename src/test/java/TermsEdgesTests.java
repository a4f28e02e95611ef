/** The boundaries that the Terms name in their first two parts: airs, doors, houses, what they tell; months, mends. */
public final class TermsEdgesTests extends Edges {
    private static final String TERMS = "Terms";

    public static void main(String[] args) {
        airs();
        doors();
        states();
        lean();
        monthsFromZeroOn();
        textOf100();
        clauses();
        partsOfClauses();
        eithers();
        factors();
        tests();
        letters();
        nesting();
        faults();
        textEndsTooEarly();
        newestHouse();
        swellingAndDrawn();
        sinkAndDraught();
        swell();
        swellOfKinds();
        bend();
        hang();
        gaps();
        rubs();
        draughts();
        monthForAllDoors();
        waterGoesNearer();
        sagIsDrawn();
        monthIsOneMore();
        leanSinks();
        mends();
        end("TermsEdgesTests");
    }

    // ---- what there is

    private static void airs() {
        sentence(TERMS, "AIR of MONTHS 0 .. 11 (0 .. 99; 50 at first)");
        DoorSticks x = new DoorSticks();
        for (int m = 0; m < 12; m++) {
            due("AIR at first of " + m, x.told(10 + m), 50);
        }
        for (int m : new int[] {0, 11}) {
            due("AIR 0", x.air(m, 0), 50);
            due("AIR 99", x.air(m, 99), 0);
            due("AIR -1", x.air(m, -1), -2);
            due("AIR 100", x.air(m, 100), -2);
            due("AIR", x.told(10 + m), 99);
        }
        due("MONTH -1", x.air(-1, 9), -1);
        due("MONTH 12", x.air(12, 9), -1);
        for (int m = 1; m < 11; m++) {
            due("AIR of " + m, x.told(10 + m), 50);
        }
    }

    private static void doors() {
        sentence(TERMS, "DOORS 0 .. 3, as they come");
        DoorSticks x = new DoorSticks();
        for (int d = 0; d < 4; d++) {
            due("no DOOR yet", x.of(d, 0), -10001);
            due("the DOOR that comes", x.door(d, d), d);
            due("its KIND", x.of(d, 0), d);
        }
        due("a fifth", x.door(0, 0), -4);
        due("DOOR 4", x.of(4, 0), -10001);
        due("DOOR -1", x.of(-1, 0), -10001);

        sentence(TERMS, "are of KINDS: 0 DOOR; 1 SWOLLEN, 2 BOWED, 3 SAGGED under DOOR; 4 FRAMED under SWOLLEN; 5 "
            + "PLANED under BOWED; 6 LEANED under SAGGED");
        String[] under = {"0", "01", "02", "03", "014", "025", "036"};
        for (int kind = 0; kind < 7; kind++) {
            DoorSticks y = withDoors(kind, 0);
            due("KIND", y.of(0, 0), kind);
            for (int k = 0; k < 7; k++) {
                due(kind + " taken for " + k, y.taken(0, k), under[kind].indexOf('0' + k) < 0 ? -12 : kind);
            }
        }
        due("KIND -1", new DoorSticks().door(-1, 0), -1);
        due("KIND 7", new DoorSticks().door(7, 0), -1);

        sentence(TERMS, "with a number v (0 .. 9)");
        DoorSticks z = new DoorSticks();
        due("v -1", z.door(0, -1), -2);
        due("v 10", z.door(0, 10), -2);
        due("v 0", z.door(0, 0), 0);
        due("v 9", z.door(0, 9), 1);
        due("v 0", z.of(0, 1), 0);
        due("v 9", z.of(1, 1), 9);
    }

    private static void states() {
        sentence(TERMS, "each has WATER of its INSIDE and its OUTSIDE (0 .. 99; 50 at first)");
        DoorSticks x = withDoors(0, 0, 6, 9);
        for (int side = 0; side < 2; side++) {
            due("WATER at first", x.of(1, 2 + side), 50);
            due("WATER 0", x.water(1, side, 0), 50);
            due("WATER 99", x.water(1, side, 99), 0);
            due("WATER -1", x.water(1, side, -1), -2);
            due("WATER 100", x.water(1, side, 100), -2);
            due("WATER", x.of(1, 2 + side), 99);
        }
        due("the other DOOR's", x.of(0, 2), 50);

        sentence(TERMS, "PAINT on these or not (none at first)");
        due("PAINT at first", x.of(0, 4), 0);
        due("PAINT was", x.mend(0, 3, 0, 0), 0);
        due("PAINT is", x.mend(0, 3, 0, 0), 1);
        due("PAINT of the other side", x.mend(0, 3, 1, 0), 0);

        sentence(TERMS, "SAG (0 .. 20; 0 at first)");
        due("SAG at first", x.of(0, 5), 0);
        due("SAG 20", x.sag(0, 20), 0);
        due("SAG 0", x.sag(0, 0), 20);
        due("SAG -1", x.sag(0, -1), -2);
        due("SAG 21", x.sag(0, 21), -2);

        sentence(TERMS, "PACK (0 .. 9; 0 at first)");
        due("PACK at first", x.of(0, 6), 0);
        pack(x, 0, 9);
        due("PACK 9", x.of(0, 6), 9);
        pack(x, 0, 1);
        due("PACK 9 still", x.of(0, 6), 9);

        sentence(TERMS, "CUTS at SPOTS 0 .. 5 (top at the hinges, top at the lock, lock above, lock below, sill at "
            + "the lock, sill at the hinges; 0 .. 99; 4 at first)");
        for (int s = 0; s < 6; s++) {
            DoorSticks y = withDoors(0, 0);
            due("CUT at first", y.of(0, 20 + s), 4);
            strip(y, 0, s, 4);
            due("CUT 0", y.of(0, 20 + s), 0);
            plane(y, 0, s, 99);
            due("CUT 99", y.of(0, 20 + s), 99);
            due("CUT of the next", y.of(0, 20 + (s + 1) % 6), 4);
        }
        due("SPOT -1", x.of(0, 19), -10001);
        due("SPOT 6", x.of(0, 26), -10001);
    }

    private static void lean() {
        sentence(TERMS, "LEAN of the house: 0 .. 20 (0 at first)");
        DoorSticks x = new DoorSticks();
        due("LEAN at first", x.told(3), 0);
        due("LEAN 20", x.lean(20), 0);
        due("LEAN 21", x.lean(21), -2);
        due("LEAN 0", x.lean(0), 20);
        due("LEAN -1", x.lean(-1), -2);
    }

    private static void monthsFromZeroOn() {
        sentence(TERMS, "MONTH (from 0 on; AIR by MONTH modulo 12): 0 at first");
        DoorSticks x = withDoors(0, 0);
        due("MONTH at first", x.told(2), 0);
        months(x, 11);
        x.air(11, 10);
        x.air(0, 90);
        due("the twelfth", x.month(), 12);
        due("AIR 11", x.of(0, 2), 30);
        due("the thirteenth", x.month(), 13);
        due("AIR 0 again", x.of(0, 2), 60);
        months(x, 10);
        due("AIR of the others", x.of(0, 2), 51);
        due("MONTH 24", x.month(), 24);
        due("AIR 11 again", x.of(0, 2), 31);
        x.month();
        due("AIR 0 again", x.of(0, 2), 60);
    }

    // ---- how a HOUSE is read

    private static void whole(String text) {
        due("'" + text + "'", house(new DoorSticks(), text), 0);
    }

    private static void fault(String text, int place) {
        due("'" + text + "'", house(new DoorSticks(), text), -10 - place);
    }

    private static void textOf100() {
        sentence(TERMS, "A HOUSE is read from THE TEXT (bytes, 100 at most)");
        String most = "swell 1 k=10" + "|k=1".repeat(22);
        DoorSticks x = new DoorSticks();
        feed(x, most);
        due("bytes", x.count(3), 100);
        due("byte 101", x.feed('1'), -4);
        due("bytes still", x.count(3), 100);
        due("the HOUSE of 100", x.house(), 0);
        DoorSticks four = withDoors(0, 0, 1, 0);
        for (int h = 0; h < 4; h++) {
            due("a HOUSE of 100", house(four, most.replace("k=10", h % 2 == 0 ? "k=10" : "k=00")), h);
            due("its E for KIND 0", four.of(0, 7), h % 2 == 0 ? 0 : 2);
            due("its E for KIND 1", four.of(1, 7), 2);
        }
        fault(most.substring(0, 99) + "?", 99);
        fault(most.substring(0, 99), 99);
    }

    private static String sinks(int n) {
        return ";sink 1".repeat(n).substring(n == 0 ? 0 : 1);
    }

    private static void clauses() {
        sentence(TERMS, "CLAUSES, 1 to 10, with ; between");
        fault("", 0);
        for (int n = 1; n <= 10; n++) {
            whole(sinks(n));
        }
        fault(sinks(11), sinks(10).length());
        fault(sinks(10) + ";", sinks(10).length());
        fault(sinks(10) + "x", sinks(10).length());
        fault(";", 0);
        fault(";sink 1", 0);
        fault("sink 1;", 7);
        fault("sink 1;;sink 1", 7);
        fault("sink 1 ;sink 1", 6);
        fault("sink 1,sink 1", 6);
        DoorSticks x = inHouse(sinks(9) + ";sink 9");
        due("the tenth counts", x.told(0), 9);
    }

    private static void partsOfClauses() {
        sentence(TERMS, "swell n E; draw n E; sink n; draught n (one blank ahead of each part behind the word; n 1 "
            + "or 2 digits)");
        whole("swell 1 k=1");
        whole("draw 1 k=1");
        whole("sink 1");
        whole("draught 1");
        fault("swell 1", 7);
        fault("draw 1;", 6);
        fault("sink 1 k=1", 6);
        fault("draught 1 k=1", 9);
        fault("swell k=1", 6);
        fault("swell1 k=1", 5);
        fault("swell  1 k=1", 6);
        fault("swell 1  k=1", 8);
        fault("swell 1k=1", 7);
        fault(" swell 1 k=1", 0);
        fault("swell 1 k=1 ", 11);
        fault("draw1 k=1", 4);
        fault("sink1", 4);
        fault("sink  1", 5);
        fault("draught1", 7);
        fault("draught  1", 8);
        for (String n : new String[] {"0", "9", "00", "09", "10", "99"}) {
            whole("swell " + n + " k=1");
            DoorSticks x = inHouse("sink " + n + ";draught " + n);
            due("sink", x.told(0), Integer.parseInt(n));
            due("draught", x.told(1), Integer.parseInt(n));
        }
        fault("swell 100 k=1", 8);
        fault("draw 100 k=1", 7);
        fault("sink 100", 7);
        fault("draught 001", 10);
        fault("sink -1", 5);
        fault("sink /", 5);
        fault("sink :", 5);
        fault("sink 1/", 6);
        fault("sink 1:", 6);
    }

    /** 1: E holds for a DOOR of KIND 0; k=0 is what holds, k=1 what does not. */
    private static int truth(String e) {
        return truthOf(withDoors(0, 0), 0, e);
    }

    private static int truthOf(DoorSticks x, int door, String e) {
        due("'" + e + "' is an E", Math.min(0, house(x, "swell 99 " + e)), 0);
        return x.of(door, 7) > 0 ? 1 : 0;
    }

    /** t and f stand for TESTS that hold and do not. */
    private static void holds(String e, int want) {
        due(e, truth(e.replace("t", "k=0").replace("f", "k=1")), want);
    }

    private static void eithers() {
        sentence(TERMS, "E: T or T|E. T: F or F&T.");
        holds("t|t", 1);
        holds("t|f", 1);
        holds("f|t", 1);
        holds("f|f", 0);
        holds("t&t", 1);
        holds("t&f", 0);
        holds("f&t", 0);
        holds("f&f", 0);
        holds("f|f|t", 1);
        holds("t|f|f", 1);
        holds("f|f|f", 0);
        holds("t&t&t", 1);
        holds("t&t&f", 0);
        holds("f&t&t", 0);
        holds("t|f&f", 1);
        holds("f&f|t", 1);
        holds("t|t&f", 1);
        holds("f&t|t&f", 0);
        fault("swell 1 |k=1", 8);
        fault("swell 1 &k=1", 8);
        fault("swell 1 k=1|", 12);
        fault("swell 1 k=1&", 12);
        fault("swell 1 k=1||k=1", 12);
        fault("swell 1 k=1&&k=1", 12);
        fault("swell 1 k=1&|k=1", 12);
        fault("swell 1 k=1 |k=1", 11);
        fault("swell 1 k=1| k=1", 12);
    }

    private static void factors() {
        sentence(TERMS, "F: !F, (E), or a TEST");
        holds("!t", 0);
        holds("!f", 1);
        holds("!!t", 1);
        holds("!!!t", 0);
        holds("!t|t", 1);
        holds("!t&f", 0);
        holds("!(t|t)", 0);
        holds("!(t&f)", 1);
        holds("(t)", 1);
        holds("(f)", 0);
        holds("(t|t)&f", 0);
        holds("t&(f|t)", 1);
        holds("(f|(t&(t|f)))", 1);
        holds("!(f)&!f", 1);
        fault("swell 1 ()", 9);
        fault("swell 1 (", 9);
        fault("swell 1 )", 8);
        fault("swell 1 !", 9);
        fault("swell 1 !)", 9);
        fault("swell 1 !|k=1", 9);
        fault("swell 1 k=1!", 11);
        fault("swell 1 k=1)", 11);
        fault("swell 1 (k=1", 12);
        fault("swell 1 (k=1;sink 1", 12);
        fault("swell 1 (k=1))", 13);
        fault("swell 1 (k=1)k=1", 13);
        fault("swell 1 k=1(k=1)", 11);
    }

    private static void tests() {
        sentence(TERMS, "a TEST: a letter, < or = or >, a number (1 or 2 digits)");
        // DOOR 2's number: below, at and above what is asked.
        for (String e : "d<3 d<03 d<99 d=2 d=02 d>1 d>0 d>01".split(" ")) {
            due(e, truthOf(withDoors(0, 0, 0, 0, 0, 0), 2, e), 1);
        }
        for (String e : "d<2 d<1 d<0 d=1 d=3 d=20 d=12 d>2 d>02 d>3 d>99".split(" ")) {
            due(e, truthOf(withDoors(0, 0, 0, 0, 0, 0), 2, e), 0);
        }
        fault("swell 1 k=", 10);
        fault("swell 1 k=;", 10);
        fault("swell 1 k=100", 12);
        fault("swell 1 k=001", 12);
        fault("swell 1 k=-1", 10);
        fault("swell 1 k=/", 10);
        fault("swell 1 k=:", 10);
        fault("swell 1 k", 9);
        fault("swell 1 k1", 9);
        fault("swell 1 k!1", 9);
        fault("swell 1 k<=1", 10);
        fault("swell 1 =1", 8);
        fault("swell 1 1=k", 8);
        fault("swell 1 kk=1", 9);
        for (char c = 0; c < 128; c++) {
            if ("kdwspm(!".indexOf(c) < 0) {
                fault("draw 1 " + c + "=1", 7);
            }
            if ("<=>".indexOf(c) < 0) {
                fault("draw 1 k" + c + "1", 8);
            }
        }
    }

    /** The letter stands for n, by all that <, =, > can ask next to it. */
    private static void stands(DoorSticks x, int door, char letter, int n) {
        StringBuilder e = new StringBuilder("&L=N&L<M&!L<N&!L>N&!L=M");
        if (n > 0) {
            e.append("&L>K&!L=K&!L<K");
        }
        String all = e.substring(1).replace("N", "" + n).replace("M", "" + (n + 1)).replace("K", "" + (n - 1));
        due(letter + " of " + n, truthOf(x, door, all.replace('L', letter)), 1);
    }

    /** A DOOR whose letters stand for other numbers each: k, d 2, w 5, s 7, p 1, m 3. */
    private static DoorSticks lettered(int kind) {
        DoorSticks x = withDoors(0, 0, 0, 0, kind, 0);
        x.sag(2, 7);
        paint(x, 2, 1);
        months(x, 3);
        return x;
    }

    private static void letters() {
        sentence(TERMS, "of a DOOR k its KIND");
        for (int kind = 0; kind < 7; kind++) {
            stands(lettered(kind), 2, 'k', kind);
        }

        sentence(TERMS, "d its number");
        for (int d = 0; d < 4; d++) {
            DoorSticks x = withDoors(6, 0, 6, 0, 6, 0, 6, 0);
            stands(x, d, 'd', d);
        }

        sentence(TERMS, "w its WATER (of both sides, together, by 2, cut) by 10 (cut)");
        int[][] waters = {{9, 10, 0}, {10, 10, 1}, {1, 1, 0}, {19, 20, 1}, {20, 20, 2}, {0, 99, 4}, {99, 0, 4},
            {1, 99, 5}, {50, 50, 5}, {99, 98, 9}, {99, 99, 9}, {89, 90, 8}, {90, 90, 9}};
        for (int[] w : waters) {
            DoorSticks x = lettered(3);
            waters(x, 2, w[0], w[1]);
            stands(x, 2, 'w', w[2]);
        }

        sentence(TERMS, "s its SAG");
        for (int s : new int[] {0, 1, 2, 19, 20}) {
            DoorSticks x = lettered(3);
            x.sag(2, s);
            pack(x, 2, 3);
            stands(x, 2, 's', s);
        }

        sentence(TERMS, "p how many sides have PAINT");
        for (int bits = 0; bits < 4; bits++) {
            DoorSticks x = withDoors(6, 0);
            x.sag(0, 7);
            months(x, 4);
            if ((bits & 1) != 0) {
                paint(x, 0, 0);
            }
            if ((bits & 2) != 0) {
                paint(x, 0, 1);
            }
            stands(x, 0, 'p', Integer.bitCount(bits));
        }

        sentence(TERMS, "m MONTH modulo 12");
        for (int m = 0; m <= 36; m++) {
            DoorSticks x = withDoors(6, 0);
            x.sag(0, 19);
            paint(x, 0, 0);
            paint(x, 0, 1);
            months(x, m);
            stands(x, 0, 'm', m % 12);
        }
    }

    private static void nesting() {
        sentence(TERMS, "A ( or ! within 4 others is none.");
        whole("swell 1 ((((k=1))))");
        fault("swell 1 (((((k=1)))))", 12);
        whole("swell 1 !!!!k=1");
        fault("swell 1 !!!!!k=1", 12);
        whole("swell 1 !(!(k=1))");
        fault("swell 1 !(!(!k=1))", 12);
        fault("swell 1 !(!((k=1)))", 12);
        whole("swell 1 (!(!k=1))");
        fault("swell 1 (!(!(k=1)))", 12);
        fault("swell 1 (!(!!k=1))", 12);
        whole("swell 1 !!!!k=1&!!!!k=1|((((k=1))))&((((k=1))))");
        whole("swell 1 (k=1|(k=1|(k=1|(k=1))))");
        fault("swell 1 (k=1|(k=1|(k=1|(k=1|(k=1)))))", 28);
        fault("swell 1 (k=1|(k=1|(k=1|(k=1|!k=1))))", 28);
        whole("swell 1 ((k=1)&(k=1)&(((k=1)&!k=1)))");
        fault("swell 1 ((((k=1&!k=1))))", 16);
        whole("draw 1 ((((k=1))));draw 1 ((((k=1))))");
        holds("!!!!t", 1);
        holds("((((f))))", 0);
        holds("!(!(t))", 1);
    }

    private static void faults() {
        sentence(TERMS, "The FAULT: the place of the first byte with which none begins so");
        for (char c = 0; c < 128; c++) {
            if (c != 's' && c != 'd') {
                fault(c + "ink 1", 0);
            }
            if (c != ';' && (c < '0' || c > '9')) {
                fault("sink 1" + c, 6);
            }
        }
        fault("SINK 1", 0);
        fault("sa", 1);
        fault("sw ", 2);
        fault("si ", 2);
        fault("siwell", 2);
        fault("swink", 2);
        fault("swelt 1 k=1", 4);
        fault("swells", 5);
        fault("sinks", 4);
        fault("de", 1);
        fault("drw", 2);
        fault("dra ", 3);
        fault("draft", 3);
        fault("draws", 4);
        fault("drauhgt", 4);
        fault("draughts", 7);
        fault("sink 1;sing 1;xxx", 10);
        fault("sink 1;swell 1 k=1;drew 1", 21);
        fault("sink ?;swell ? k=1", 5);
    }

    private static void textEndsTooEarly() {
        sentence(TERMS, "(the end of THE TEXT, if it ends too early)");
        String[] wholes = {"swell 10 (k=12)", "draw 1 !p>0", "sink 1", "draught 1", "sink 1;draught 1"};
        for (String text : wholes) {
            whole(text);
            for (int end = 0; end < text.length(); end++) {
                String early = text.substring(0, end);
                if (!early.equals("sink 1")) {
                    fault(early, end);
                    DoorSticks behind = new DoorSticks();
                    house(behind, text + ";?");
                    due("'" + early + "' behind a longer one", house(behind, early), -10 - end);
                }
            }
        }
        due("no TEXT", new DoorSticks().house(), -10);
        for (String word : new String[] {"swel", "draw", "sink", "draught "}) {
            fault("swell 1 k=1" + "|k=1".repeat((88 - word.length()) / 4) + ";" + word, 100);
        }
    }

    private static void newestHouse() {
        sentence(TERMS, "The newest HOUSE holds (6 at most)");
        DoorSticks x = new DoorSticks();
        for (int h = 0; h < 6; h++) {
            due("HOUSE", house(x, "sink 1" + h), h);
            due("it holds", x.told(0), 10 + h);
        }
        due("a seventh", house(x, "sink 20"), -4);
        due("the sixth holds", x.told(0), 15);
        due("HOUSES", x.count(1), 6);

        sentence(TERMS, "without one there are no CLAUSES");
        DoorSticks y = withDoors(0, 0);
        y.sag(0, 1);
        waters(y, 0, 40, 40);
        due("SWELLING 1", y.of(0, 7), 2);
        strip(y, 0, 5, 4);
        plane(y, 0, 5, 9);
        due("draught 9", y.of(0, 11), 0);
        plane(y, 0, 5, 1);
        due("draught 9", y.of(0, 11), 32);
        months(y, 12);
        due("DRAWN 0", y.of(0, 5), 1);
        due("sink 0", y.told(3), 0);
    }

    // ---- what a HOUSE tells

    private static void swellingAndDrawn() {
        sentence(TERMS, "SWELLING: the n of all swell whose E holds, together (1, if there are no swell CLAUSES at "
            + "all)");
        String[] texts = {"sink 1", "draw 5 k=0", "swell 5 k=1", "swell 0 k=0", "swell 5 k=0",
            "swell 5 k=1;swell 7 k=0", "swell 5 k=0;swell 7 k=0", "swell 99 k=0;swell 99 k=0;draw 9 k=0;swell 1 k=1"};
        int[] swellings = {1, 1, 0, 0, 5, 7, 12, 198};
        for (int i = 0; i < texts.length; i++) {
            DoorSticks x = inHouse(texts[i], 0, 0);
            waters(x, 0, 20, 20);
            due(texts[i], x.of(0, 7), swellings[i]);
        }
        DoorSticks all = inHouse("swell 99 k=0" + ";swell 99 k=0".repeat(6) + ";swell 1", 0, 0);
        due("a HOUSE that is none", all.of(0, 7), 2);
        all = inHouse("swell 99 k=0" + ";swell 99 k=0".repeat(6), 0, 0);
        waters(all, 0, 99, 99);
        due("seven of 99", all.of(0, 7), 693 * 99 / 20);

        sentence(TERMS, "DRAWN: the n of all draw whose E holds, together.");
        String[] draws = {"sink 1", "swell 5 k=0", "draw 5 k=1", "draw 0 k=0", "draw 5 k=0", "draw 5 k=1;draw 7 k=0",
            "draw 5 k=0;draw 7 k=0", "draw 1 k=0;swell 9 k=0;draw 2 k=0;draw 4 k=1"};
        int[] drawn = {0, 0, 0, 0, 5, 7, 12, 3};
        for (int i = 0; i < draws.length; i++) {
            DoorSticks x = inHouse(draws[i], 0, 0);
            x.month();
            due(draws[i], x.of(0, 5), drawn[i]);
        }
    }

    private static void sinkAndDraught() {
        sentence(TERMS, "sink (0 without), draught (9 without): the last one's n.");
        DoorSticks x = inHouse("swell 1 k=0");
        due("sink without", x.told(0), 0);
        due("draught without", x.told(1), 9);
        house(x, "sink 5;draught 4;sink 3;draught 0;sink 99");
        due("sink", x.told(0), 99);
        due("draught", x.told(1), 0);
        house(x, "sink 7;sink 0;draught 99;draught 98");
        due("sink", x.told(0), 0);
        due("draught", x.told(1), 98);
        house(x, "draught 3");
        due("sink without, not the one before", x.told(0), 0);
        house(x, "sink 3");
        due("draught without, not the one before", x.told(1), 9);
    }

    // ---- SWELL, BEND, HANG, GAP

    private static int swellOf(int kind, int v, int swelling, int inside, int outside) {
        DoorSticks x = inHouse("swell " + swelling + " k<9", kind, v);
        waters(x, 0, inside, outside);
        return x.of(0, 7);
    }

    private static void swell() {
        sentence(TERMS, "SWELLING times (WATER of both sides, together, by 2) by 20 (each cut)");
        due("WATER 19 by 2 is 9, cut ahead of SWELLING", swellOf(0, 0, 40, 19, 0), 18);
        due("on whatever side", swellOf(0, 0, 40, 0, 19), 18);
        due("by 20 behind SWELLING", swellOf(0, 0, 3, 50, 50), 7);
        due("19 by 20, cut", swellOf(0, 0, 1, 19, 19), 0);
        due("20 by 20", swellOf(0, 0, 1, 20, 20), 1);
        due("39 by 20, cut", swellOf(0, 0, 1, 39, 40), 1);
        due("no WATER", swellOf(0, 0, 99, 0, 0), 0);
        due("1 is none", swellOf(0, 0, 99, 1, 0), 0);
        due("no SWELLING", swellOf(0, 0, 0, 99, 99), 0);
        due("the most WATER", swellOf(0, 0, 99, 99, 99), 490);
        due("DOOR: no v", swellOf(0, 9, 1, 20, 20), 1);
        due("BOWED: no v", swellOf(2, 9, 1, 20, 20), 1);
        due("SAGGED: no v", swellOf(3, 9, 1, 20, 20), 1);
        due("LEANED: no v", swellOf(6, 9, 1, 20, 20), 1);
    }

    private static void swellOfKinds() {
        sentence(TERMS, "SWOLLEN: and v.");
        due("v 0", swellOf(1, 0, 1, 50, 50), 2);
        due("v 9", swellOf(1, 9, 1, 50, 50), 11);
        due("v 9 with no WATER", swellOf(1, 9, 1, 0, 0), 9);

        sentence(TERMS, "FRAMED: as SWOLLEN, the half of it (cut).");
        due("1 by 2", swellOf(4, 1, 1, 0, 0), 0);
        due("9 by 2", swellOf(4, 9, 1, 0, 0), 4);
        due("2 and 9 by 2", swellOf(4, 9, 1, 50, 50), 5);
        due("3 and 9 by 2, together first", swellOf(4, 9, 1, 60, 60), 6);
        due("none", swellOf(4, 0, 1, 0, 0), 0);

        sentence(TERMS, "PLANED: 2 less (0 at least).");
        due("0", swellOf(5, 9, 1, 0, 0), 0);
        due("1", swellOf(5, 9, 1, 20, 20), 0);
        due("2", swellOf(5, 9, 1, 40, 40), 0);
        due("3", swellOf(5, 9, 1, 60, 60), 1);
        due("4", swellOf(5, 0, 1, 80, 80), 2);
    }

    private static int bendOf(int kind, int inside, int outside) {
        DoorSticks x = withDoors(kind, 9);
        waters(x, 0, inside, outside);
        return x.of(0, 8);
    }

    private static void bend() {
        sentence(TERMS, "BEND: how far WATER of both sides is apart, by 10 (cut)");
        for (int kind : new int[] {0, 1, 3, 4, 6}) {
            due("0", bendOf(kind, 50, 50), 0);
            due("9", bendOf(kind, 50, 59), 0);
            due("10", bendOf(kind, 50, 60), 1);
            due("-9", bendOf(kind, 59, 50), 0);
            due("-10", bendOf(kind, 60, 50), 1);
            due("99", bendOf(kind, 0, 99), 9);
            due("-99", bendOf(kind, 99, 0), 9);
        }

        sentence(TERMS, "BOWED, PLANED: twice that.");
        for (int kind : new int[] {2, 5}) {
            due("9", bendOf(kind, 50, 59), 0);
            due("10", bendOf(kind, 60, 50), 2);
            due("19", bendOf(kind, 50, 69), 2);
            due("99", bendOf(kind, 0, 99), 18);
            due("-99", bendOf(kind, 99, 0), 18);
        }
    }

    private static int hangOf(int kind, int v, int sag, int pack, int lean) {
        DoorSticks x = withDoors(kind, v);
        x.sag(0, sag);
        pack(x, 0, pack);
        x.lean(lean);
        return x.of(0, 9);
    }

    private static void hang() {
        sentence(TERMS, "HANG: SAG less PACK (0 at least)");
        for (int kind : new int[] {0, 1, 2, 4, 5}) {
            due("0 less 9", hangOf(kind, 9, 0, 9, 20), 0);
            due("8 less 9", hangOf(kind, 9, 8, 9, 20), 0);
            due("9 less 9", hangOf(kind, 9, 9, 9, 20), 0);
            due("10 less 9", hangOf(kind, 9, 10, 9, 20), 1);
            due("20 less 0", hangOf(kind, 9, 20, 0, 20), 20);
        }

        sentence(TERMS, "SAGGED: and v");
        due("0 at least ahead of v", hangOf(3, 4, 0, 9, 20), 4);
        due("SAG and v", hangOf(3, 9, 20, 0, 20), 29);
        due("v 0", hangOf(3, 0, 3, 1, 20), 2);

        sentence(TERMS, "LEANED: as SAGGED, and LEAN by 2 (cut).");
        int[][] leans = {{0, 0}, {1, 0}, {2, 1}, {3, 1}, {19, 9}, {20, 10}};
        for (int[] lean : leans) {
            due("LEAN " + lean[0], hangOf(6, 4, 0, 9, lean[0]), 4 + lean[1]);
            due("LEAN " + lean[0], hangOf(6, 0, 3, 1, lean[0]), 2 + lean[1]);
        }
    }

    private static void gaps() {
        sentence(TERMS, "GAP at a SPOT: CUT, and at 0: LEAN less. 1: HANG more, LEAN less. 2: SWELL, HANG and BEND "
            + "less. 3: SWELL less, HANG more, BEND less. 4: HANG less. 5: PACK less.");
        // SWELL 20 times 50 by 20, HANG 20 - 7, BEND 2, LEAN 11, PACK 7.
        DoorSticks x = inHouse("swell 20 k=0", 0, 0);
        waters(x, 0, 40, 60);
        x.sag(0, 20);
        pack(x, 0, 7);
        x.lean(11);
        for (int s = 0; s < 6; s++) {
            plane(x, 0, s, 10 * s);
        }
        int[] want = {4 - 11, 14 + 13 - 11, 24 - 50 - 13 - 2, 34 - 50 + 13 - 2, 44 - 13, 54 - 7};
        for (int s = 0; s < 6; s++) {
            due("GAP at " + s, x.of(0, 30 + s), want[s]);
        }
    }

    /** A DOOR of no SWELL, HANG, BEND, so that each GAP is CUT, but at 0, 1 for LEAN. */
    private static DoorSticks dry() {
        DoorSticks x = withDoors(0, 0);
        allAirs(x, 0);
        waters(x, 0, 0, 0);
        return x;
    }

    private static void rubs() {
        sentence(TERMS, "It RUBS where GAP is below 0");
        DoorSticks x = dry();
        for (int s = 0; s < 6; s++) {
            strip(x, 0, s, 4);
        }
        due("GAP 0 all round", x.of(0, 10), 0);
        x.lean(1);
        due("GAP -1 at 0, 1", x.of(0, 10), 1 | 2);
        plane(x, 0, 1, 1);
        due("GAP -1 at 0", x.of(0, 10), 1);
        x.lean(0);
        strip(x, 0, 1, 1);
        x.sag(0, 1);
        due("GAP -1 at 2, 4", x.of(0, 10), 4 | 16);
        plane(x, 0, 2, 1);
        due("GAP -1 at 4", x.of(0, 10), 16);
        x.sag(0, 0);
        waters(x, 0, 20, 20);
        due("GAP -1 at 3", x.of(0, 10), 8);
        plane(x, 0, 3, 1);
        due("GAP 0 again", x.of(0, 10), 0);
        waters(x, 0, 0, 10);
        due("GAP 0 again with BEND", x.of(0, 10), 0);
        strip(x, 0, 2, 1);
        due("GAP -1 at 2", x.of(0, 10), 4);
        waters(x, 0, 0, 0);
        pack(x, 0, 1);
        due("GAP -1 at 5", x.of(0, 10), 32);
    }

    private static void draughts() {
        sentence(TERMS, "a DRAUGHT is where it is above draught");
        for (int s = 0; s < 6; s++) {
            DoorSticks x = dry();
            plane(x, 0, s, 5);
            due("GAP 9 at " + s, x.of(0, 11), 0);
            plane(x, 0, s, 1);
            due("GAP 10 at " + s, x.of(0, 11), 1 << s);
            house(x, "draught 10");
            due("GAP 10 with draught 10", x.of(0, 11), 0);
            house(x, "draught 0");
            due("with draught 0", x.of(0, 11), 63);
            strip(x, 0, s, 9);
            strip(x, 0, s, 1);
            due("GAP 0 with draught 0", x.of(0, 11), 63 - (1 << s));
            plane(x, 0, s, 99);
            house(x, "draught 99");
            due("GAP 99 with draught 99", x.of(0, 11), 0);
        }
    }

    // ---- a MONTH goes

    private static void waterGoesNearer() {
        sentence(TERMS, "WATER of each side goes nearer to AIR by (AIR less WATER) by 2 (cut toward 0), with PAINT "
            + "by 8");
        int[][] rows = {
            {50, 51, 50, 50}, {51, 50, 51, 51}, {50, 52, 51, 50}, {52, 50, 51, 52}, {50, 53, 51, 50}, {53, 50, 52, 53},
            {50, 57, 53, 50}, {57, 50, 54, 57}, {50, 58, 54, 51}, {58, 50, 54, 57}, {50, 65, 57, 51}, {65, 50, 58, 64},
            {50, 66, 58, 52}, {0, 99, 49, 12}, {99, 0, 50, 87}, {0, 0, 0, 0}, {99, 99, 99, 99}, {1, 0, 1, 1},
            {98, 99, 98, 98},
        };
        for (int[] row : rows) {
            String what = row[0] + " in AIR " + row[1];
            DoorSticks x = withDoors(0, 0, 0, 0);
            for (int d = 0; d < 2; d++) {
                waters(x, d, row[0], row[0]);
                paint(x, d, d);
            }
            x.air(0, row[1]);
            x.month();
            due(what + " with PAINT INSIDE", x.of(0, 2), row[3]);
            due(what + " OUTSIDE without", x.of(0, 3), row[2]);
            due(what + " INSIDE without", x.of(1, 2), row[2]);
            due(what + " with PAINT OUTSIDE", x.of(1, 3), row[3]);
        }
    }

    private static void monthForAllDoors() {
        sentence(TERMS, "A MONTH goes, for all DOORS");
        due("without a DOOR", new DoorSticks().month(), 1);
        for (int doors = 1; doors <= 4; doors++) {
            DoorSticks x = inHouse("draw 3 d<9");
            for (int d = 0; d < doors; d++) {
                x.door(d, d);
            }
            x.air(0, 90);
            x.month();
            for (int d = 0; d < doors; d++) {
                due("INSIDE of " + d, x.of(d, 2), 70);
                due("OUTSIDE of " + d, x.of(d, 3), 70);
                due("SAG of " + d, x.of(d, 5), 3);
            }
            if (doors < 4) {
                x.door(0, 0);
                due("one that comes then", x.of(doors, 2), 50);
                due("one that comes then", x.of(doors, 5), 0);
            }
        }
    }

    private static int sagBehind(String text, int sag) {
        DoorSticks x = inHouse(text, 0, 0);
        x.air(0, 90);
        x.sag(0, sag);
        x.month();
        return x.of(0, 5);
    }

    private static void sagIsDrawn() {
        sentence(TERMS, "then SAG is DRAWN more (by how it is then; 20 at most)");
        due("by WATER as it is then", sagBehind("draw 3 w=7;draw 5 w=5", 0), 3);
        due("by MONTH as it is then", sagBehind("draw 3 m=0;draw 5 m=1", 0), 3);
        due("by SAG as it was", sagBehind("draw 3 s=0;draw 5 s=3", 0), 3);
        due("19 and 0", sagBehind("draw 0 k=0", 19), 19);
        due("18 and 1", sagBehind("draw 1 k=0", 18), 19);
        due("19 and 1", sagBehind("draw 1 k=0", 19), 20);
        due("19 and 2", sagBehind("draw 2 k=0", 19), 20);
        due("20 and 1", sagBehind("draw 1 k=0", 20), 20);
        due("0 and 99", sagBehind("draw 99 k=0", 0), 20);
        due("20 and 693", sagBehind("draw 99 k=0" + ";draw 99 k=0".repeat(6), 20), 20);
    }

    private static void monthIsOneMore() {
        sentence(TERMS, "then MONTH is 1 more (9999 at most)");
        DoorSticks none = new DoorSticks();
        due("without a DOOR", none.month(), 1);
        due("without a DOOR", none.told(2), 1);
        // The document vouches for 512 calls, but there is no other way to MONTH 9999.
        DoorSticks x = new DoorSticks();
        months(x, 9997);
        due("MONTH 9998", x.month(), 9998);
        due("MONTH 9999", x.month(), 9999);
        due("no more", x.month(), -3);
        due("MONTH 9999", x.told(2), 9999);
    }

    private static void leanSinks() {
        sentence(TERMS, "each time it becomes a multiple of 12, LEAN is sink more (20 at most)");
        DoorSticks x = inHouse("sink 9");
        int[] leans = {0, 9, 18, 20, 20};
        due("MONTH 0 is none that it becomes", x.told(3), 0);
        for (int m = 1; m <= 48; m++) {
            x.month();
            due("LEAN in MONTH " + m, x.told(3), leans[m / 12]);
        }
        int[][] rows = {{19, 1, 20}, {19, 2, 20}, {20, 0, 20}, {20, 99, 20}, {0, 20, 20}, {0, 21, 20}, {0, 99, 20},
            {18, 1, 19}};
        for (int[] row : rows) {
            DoorSticks y = inHouse("sink " + row[1]);
            y.lean(row[0]);
            months(y, 12);
            due("LEAN " + row[0] + " and sink " + row[1], y.told(3), row[2]);
        }
        DoorSticks late = withDoors(6, 0);
        months(late, 11);
        house(late, "sink 7;draw 5 k=6");
        late.month();
        due("the sink of the HOUSE that holds then", late.told(3), 7);
        due("HANG of LEANED with it", late.of(0, 9), 5 + 3);
    }

    // ---- MENDS

    private static void mends() {
        sentence(TERMS, "0 PLANE at a SPOT by n: CUT is n more (99 at most).");
        for (int s = 0; s < 6; s++) {
            DoorSticks x = withDoors(0, 0);
            plane(x, 0, s, 94);
            due("98 was", x.mend(0, 0, s, 0), 98);
            due("98 and 1", x.mend(0, 0, s, 1), 98);
            due("99 and 1", x.mend(0, 0, s, 1), 99);
            due("99 and 9", x.mend(0, 0, s, 9), 99);
            due("99", x.of(0, 20 + s), 99);
            strip(x, 0, s, 3);
            due("96 and 9", x.mend(0, 0, s, 9), 96);
            due("99", x.of(0, 20 + s), 99);
        }

        sentence(TERMS, "1 PACK n more (9 at most).");
        DoorSticks p = withDoors(0, 0);
        due("0 and 0", p.mend(0, 1, 0, 0), 0);
        due("0 and 8", p.mend(0, 1, 0, 8), 0);
        due("8 and 1", p.mend(0, 1, 0, 1), 8);
        due("9 and 1", p.mend(0, 1, 0, 1), 9);
        due("9", p.of(0, 6), 9);
        DoorSticks q = withDoors(0, 0);
        pack(q, 0, 5);
        pack(q, 0, 9);
        due("5 and 9", q.of(0, 6), 9);

        sentence(TERMS, "2 SCREWS: SAG 0.");
        p.sag(0, 20);
        due("SAG was", p.mend(0, 2, 0, 0), 20);
        due("SAG is", p.mend(0, 2, 0, 0), 0);
        due("SAG", p.of(0, 5), 0);
        due("PACK stays", p.of(0, 6), 9);

        sentence(TERMS, "3 PAINT of a side (0 INSIDE, 1 OUTSIDE).");
        due("INSIDE", p.mend(0, 3, 0, 0), 0);
        due("PAINT", p.of(0, 4), 1);
        due("OUTSIDE", p.mend(0, 3, 1, 0), 0);
        due("PAINT", p.of(0, 4), 3);
        due("once more", p.mend(0, 3, 0, 0), 1);
        due("PAINT", p.of(0, 4), 3);

        sentence(TERMS, "4 STRIP at a SPOT by n: CUT is n less (0 at least).");
        for (int s = 0; s < 6; s++) {
            DoorSticks x = withDoors(0, 0);
            due("4 less 0", x.mend(0, 4, s, 0), 4);
            due("4 less 3", x.mend(0, 4, s, 3), 4);
            due("1 less 1", x.mend(0, 4, s, 1), 1);
            due("0 less 1", x.mend(0, 4, s, 1), 0);
            due("0", x.of(0, 20 + s), 0);
            plane(x, 0, s, 5);
            due("5 less 9", x.mend(0, 4, s, 9), 5);
            due("0", x.of(0, 20 + s), 0);
        }
    }
}
