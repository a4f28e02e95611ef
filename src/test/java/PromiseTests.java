/** For each promise of the document: ordinary inputs, the edges it names, and wrong inputs. */
public final class PromiseTests {
    private static final int MIN = Integer.MIN_VALUE, MAX = Integer.MAX_VALUE;
    private static int wrong = 0;

    private static void due(String what, long got, long want) {
        if (got != want) {
            wrong++;
            System.out.println(what + ": answered " + got + ", due is " + want);
        }
    }

    private static void feed(DoorSticks x, String text) {
        for (int i = 0; i < text.length(); i++) {
            x.feed(text.charAt(i));
        }
    }

    private static int house(DoorSticks x, String text) {
        feed(x, text);
        return x.house();
    }

    private static DoorSticks withDoors(int... kindsAndVs) {
        DoorSticks x = new DoorSticks();
        for (int i = 0; i + 1 < kindsAndVs.length; i += 2) {
            x.door(kindsAndVs[i], kindsAndVs[i + 1]);
        }
        return x;
    }

    private static void allAirs(DoorSticks x, int n) {
        for (int m = 0; m < 12; m++) {
            x.air(m, n);
        }
    }

    private static void months(DoorSticks x, int n) {
        for (int i = 0; i < n; i++) {
            x.month();
        }
    }

    public static void main(String[] args) {
        promise1();
        promise2();
        promise3();
        promise4();
        promise5();
        promise6();
        promise7();
        promise8();
        promise9();
        promise9Faults();
        promise9Tests();
        promise10();
        promise11();
        promise12();
        promise13();
        promise14();
        promise15();
        promise16();
        promise17();
        promise18();
        promise19();
        promise20();
        promise21();
        promise22();
        promise23();
        promise24();
        promise25And26();
        promise27And28();
        promise29();
        promise30();
        promise31();
        promise32And33();
        promise34();
        System.out.println(wrong == 0 ? "PromiseTests: all as due" : "PromiseTests: " + wrong + " wrong");
        System.exit(wrong == 0 ? 0 : 1);
    }

    private static void promise1() {
        DoorSticks x = new DoorSticks();
        for (int what = 0; what < 5; what++) {
            due("1 count " + what, x.count(what), 0);
        }
        due("1 sink without HOUSE", x.told(0), 0);
        due("1 draught without HOUSE", x.told(1), 9);
        due("1 MONTH", x.told(2), 0);
        due("1 LEAN", x.told(3), 0);
        for (int m = 0; m < 12; m++) {
            due("1 AIR", x.told(10 + m), 50);
        }
        for (int t = 0; t < 6; t++) {
            due("1 TAPE", x.item(t, 0, 0), -11);
        }
        due("1 no DOOR", x.of(0, 0), -10001);
        due("1 no IMAGE", x.undo(), -3);
        due("1 the constants", DoorSticks.NO, Long.MIN_VALUE);
        due("1 two objects share nothing", new DoorSticks().door(0, 0), 0);
        due("1 two objects share nothing", x.door(0, 0), 0);
    }

    private static void promise2() {
        DoorSticks x = new DoorSticks();
        due("2 was", x.air(0, 99), 50);
        due("2 was", x.air(0, 0), 99);
        due("2 last month", x.air(11, 7), 50);
        due("2 is", x.told(21), 7);
        due("2 NONE", x.air(12, 5), -1);
        due("2 NONE", x.air(-1, 5), -1);
        due("2 NONE ahead of BAD", x.air(12, 100), -1);
        due("2 BAD", x.air(0, 100), -2);
        due("2 BAD", x.air(0, -1), -2);
        due("2 BAD changes nothing", x.told(10), 0);
    }

    private static void promise3() {
        DoorSticks x = new DoorSticks();
        due("3 was", x.lean(20), 0);
        due("3 was", x.lean(0), 20);
        due("3 BAD", x.lean(21), -2);
        due("3 BAD", x.lean(-1), -2);
        due("3 BAD changes nothing", x.told(3), 0);
    }

    private static void promise4() {
        DoorSticks x = new DoorSticks();
        due("4 NONE", x.door(7, 0), -1);
        due("4 NONE ahead of BAD", x.door(-1, 10), -1);
        due("4 BAD", x.door(0, 10), -2);
        due("4 BAD", x.door(0, -1), -2);
        due("4 first", x.door(0, 0), 0);
        due("4", x.door(6, 9), 1);
        due("4", x.door(3, 4), 2);
        due("4", x.door(5, 1), 3);
        due("4 BAD ahead of FULL", x.door(0, 10), -2);
        due("4 NONE ahead of FULL", x.door(7, 10), -1);
        due("4 FULL", x.door(0, 0), -4);
        due("4 count", x.count(0), 4);
        due("4 KIND", x.of(1, 0), 6);
        due("4 v", x.of(1, 1), 9);
    }

    private static void promise5() {
        DoorSticks x = withDoors(0, 3, 1, 3, 2, 3, 3, 3);
        house(x, "swell 2 k>0;swell 3 d<2;draught 5");
        x.lean(5);
        for (int d = 0; d < 4; d++) {
            x.water(d, 0, 95);
            x.water(d, 1, 56);
            x.sag(d, 7);
            x.mend(d, 1, 0, 2);
        }
        // WATER together by 2: 75; SWELLING 3, 5, 2, 2.
        int[] swells = {11, 18 + 3, 7, 7};
        int[] bends = {3, 3, 6, 3};
        int[] hangs = {5, 5, 5, 8};
        for (int d = 0; d < 4; d++) {
            due("5 INSIDE", x.of(d, 2), 95);
            due("5 OUTSIDE", x.of(d, 3), 56);
            due("5 SAG", x.of(d, 5), 7);
            due("5 PACK", x.of(d, 6), 2);
            due("5 SWELL of " + d, x.of(d, 7), swells[d]);
            due("5 BEND of " + d, x.of(d, 8), bends[d]);
            due("5 HANG of " + d, x.of(d, 9), hangs[d]);
            due("5 GAP 0", x.of(d, 30), 4 - 5);
            due("5 GAP 1", x.of(d, 31), 4 + hangs[d] - 5);
            due("5 GAP 2", x.of(d, 32), 4 - swells[d] - hangs[d] - bends[d]);
            due("5 GAP 3", x.of(d, 33), 4 - swells[d] + hangs[d] - bends[d]);
            due("5 GAP 4", x.of(d, 34), 4 - hangs[d]);
            due("5 GAP 5", x.of(d, 35), 4 - 2);
        }
        due("5 RUBS", x.of(0, 10), 1 | 4 | 8 | 16);
        due("5 RUBS", x.of(3, 10), 1 | 4 | 16);
        due("5 DRAUGHT", x.of(3, 11), 2);
        due("5 no DRAUGHT at 4 of 5", x.of(0, 11), 0);
        x.mend(0, 0, 1, 2);
        due("5 DRAUGHT is above draught", x.of(0, 11), 2);
        due("5 CUT", x.of(0, 21), 6);
        x.mend(0, 0, 0, 7);
        for (int spot = 0; spot < 6; spot++) {
            due("5 CUT at each SPOT", x.of(0, 20 + spot), spot == 0 ? 11 : spot == 1 ? 6 : 4);
        }
        due("5 DRAUGHT at 0, too", x.of(0, 11), 1 | 2);
        x.mend(0, 4, 0, 1);
        due("5 no DRAUGHT at draught itself", x.of(0, 11), 2);
        x.mend(0, 4, 0, 6);
        due("5 CUT less", x.of(0, 20), 4);
        x.lean(4);
        due("5 GAP 0 RUBS not", x.of(0, 10) & 1, 0);
        x.lean(5);
        due("5 GAP -1 RUBS", x.of(0, 10) & 1, 1);
        due("5 PAINT none", x.of(0, 4), 0);
        x.mend(0, 3, 1, 0);
        due("5 PAINT OUTSIDE", x.of(0, 4), 2);
        x.mend(0, 3, 0, 0);
        due("5 PAINT both", x.of(0, 4), 3);
        for (int what : new int[] {-1, 12, 19, 26, 29, 36, MIN, MAX}) {
            due("5 NONE what " + what, x.of(0, what), -10001);
        }
        due("5 NONE door", x.of(4, 0), -10001);
        due("5 NONE door", x.of(-1, 0), -10001);
        kindsUnderOthers();
    }

    private static void kindsUnderOthers() {
        DoorSticks x = withDoors(4, 9, 5, 9, 6, 9);
        due("5 FRAMED: half of SWOLLEN's", x.of(0, 7), (2 + 9) / 2);
        due("5 PLANED: 2 less", x.of(1, 7), 0);
        x.water(1, 0, 99);
        due("5 PLANED: 2 less, 0 at least", x.of(1, 7), 1);
        due("5 PLANED: BEND twice, each cut first", x.of(1, 8), 2 * 4);
        x.water(1, 0, 0);
        due("5 PLANED: 0 at least", x.of(1, 7), 0);
        due("5 BEND the other way", x.of(1, 8), 10);
        x.lean(7);
        x.sag(2, 5);
        due("5 LEANED: and LEAN by 2", x.of(2, 9), 5 + 9 + 3);
        x.mend(2, 1, 0, 9);
        due("5 HANG is 0 at least ahead of v", x.of(2, 9), 9 + 3);
    }

    private static void promise6() {
        DoorSticks x = withDoors(0, 0);
        due("6 was", x.water(0, 0, 99), 50);
        due("6 was", x.water(0, 0, 0), 99);
        due("6 other side", x.water(0, 1, 3), 50);
        due("6 is", x.of(0, 3), 3);
        due("6 NONE door", x.water(1, 0, 0), -1);
        due("6 NONE door", x.water(-1, 0, 100), -1);
        due("6 NONE side", x.water(0, 2, 0), -1);
        due("6 NONE side ahead of BAD", x.water(0, -1, 100), -1);
        due("6 BAD", x.water(0, 0, 100), -2);
        due("6 BAD", x.water(0, 1, -1), -2);
        due("6 BAD changes nothing", x.of(0, 2), 0);
    }

    private static void promise7() {
        DoorSticks x = withDoors(0, 0);
        due("7 was", x.sag(0, 20), 0);
        due("7 was", x.sag(0, 3), 20);
        due("7 NONE", x.sag(1, 3), -1);
        due("7 NONE ahead of BAD", x.sag(-1, 21), -1);
        due("7 BAD", x.sag(0, 21), -2);
        due("7 BAD", x.sag(0, -1), -2);
        due("7 BAD changes nothing", x.of(0, 5), 3);
    }

    private static void promise8() {
        DoorSticks x = new DoorSticks();
        due("8 BAD", x.feed(128), -2);
        due("8 BAD", x.feed(-1), -2);
        due("8 least", x.feed(0), 1);
        due("8 greatest", x.feed(127), 2);
        for (int i = 3; i <= 100; i++) {
            due("8 how many", x.feed('a'), i);
        }
        due("8 FULL", x.feed('a'), -4);
        due("8 BAD ahead of FULL", x.feed(128), -2);
        due("8 count", x.count(3), 100);
        due("8 the FAULT of it", x.house(), -10);
        due("8 empty", x.feed('a'), 1);
    }

    private static void promise9() {
        DoorSticks x = new DoorSticks();
        due("9 first", house(x, "sink 3"), 0);
        due("9 empty then", x.count(3), 0);
        due("9 holds", x.told(0), 3);
        due("9 one that is none", house(x, "sink 4;"), -17);
        due("9 empty then, too", x.count(3), 0);
        due("9 the one that held holds", x.told(0), 3);
        due("9 the last one's n", house(x, "sink 3;draught 1;sink 12;draught 0"), 1);
        due("9 sink", x.told(0), 12);
        due("9 draught", x.told(1), 0);
        due("9 without sink", house(x, "draught 07"), 2);
        due("9 sink", x.told(0), 0);
        due("9 draught", x.told(1), 7);
        due("9 without draught", house(x, "sink 99"), 3);
        due("9 draught", x.told(1), 9);
        due("9", house(x, "sink 0"), 4);
        due("9", house(x, "sink 6"), 5);
        feed(x, "sink 7");
        due("9 FULL", x.house(), -4);
        due("9 THE TEXT stays", x.count(3), 6);
        due("9 holds", x.told(0), 6);
        x.feed('?');
        due("9 FULL ahead of a FAULT", x.house(), -4);
    }

    private static void promise9Faults() {
        String ten = "sink 1;sink 1;sink 1;sink 1;sink 1;sink 1;sink 1;sink 1;sink 1;sink 1";
        Object[][] faults = {
            {"", 0}, {" ", 0}, {"x", 0}, {"s", 1}, {"sa", 1}, {"swi", 2}, {"siw", 2}, {"d", 1}, {"dr", 2},
            {"dra", 3}, {"drb", 2}, {"draught", 7}, {"draw1", 4}, {"sink", 4}, {"sink ", 5}, {"sink  1", 5},
            {"sink a", 5}, {"sink -1", 5}, {"sink 123", 7}, {"sink 1 ", 6}, {"sink 1;", 7}, {"sink 1;;", 7},
            {"sink 1; sink 1", 7}, {"sink 1,", 6}, {"draught 1 m=1", 9},
            {"swell 1", 7}, {"swell 1;", 7}, {"swell 1 ", 8}, {"swell 123 k=1", 8}, {"swell 1  k=1", 8},
            {"swell 1 q=1", 8}, {"swell 1 5", 8}, {"swell 1 =5", 8}, {"swell 1 k5", 9}, {"swell 1 k&", 9}, {"swell 1 k", 9}, {"swell 1 k!1", 9}, {"swell 1 k=", 10}, {"swell 1 k=x", 10},
            {"swell 1 k=123", 12}, {"swell 1 k=1 ", 11}, {"swell 1 k=1&", 12}, {"swell 1 k=1|", 12},
            {"swell 1 k=1&&k=1", 12}, {"swell 1 k=1)", 11}, {"swell 1 (k=1", 12}, {"swell 1 (k=1;", 12},
            {"swell 1 ()", 9}, {"swell 1 !", 9}, {"swell 1 !;", 9}, {"swell 1 k=1!k=1", 11},
            {"swell 1 ((((k=1))))", -1}, {"swell 1 (((((k=1)))))", 12}, {"swell 1 !!!!k=1", -1},
            {"swell 1 !!!!!k=1", 12}, {"swell 1 !(!(k=1))", -1}, {"swell 1 !(!(!k=1))", 12},
            {"swell 1 !(!((k=1)))", 12}, {"swell 1 !!!!(k=1)", 12}, {"swell 1 !!!!k=1&!!!!k=1|((((k=1))))", -1},
            {"swell 1 ((k=1)&((k=1)|((k=1))))", -1}, {"swell 1 k=1;draw 1 m<12|s>20", -1},
            {ten, -1}, {ten + ";", 69}, {ten + ";sink 1", 69}, {ten + "?", 69},
            {"sink 1\u0000", 6}, {"SINK 1", 0},
        };
        for (Object[] fault : faults) {
            int want = (int) fault[1] < 0 ? 0 : -10 - (int) fault[1];
            due("9 '" + fault[0] + "'", house(new DoorSticks(), (String) fault[0]), want);
        }
        StringBuilder long100 = new StringBuilder("swell 1 k=10");
        while (long100.length() < 100) {
            long100.append("|k=1");
        }
        due("9 100 signs", house(new DoorSticks(), long100.toString()), 0);
        long100.setCharAt(99, '|');
        due("9 fault at the last sign", house(new DoorSticks(), long100.toString()), -109);
        long100.setCharAt(99, '1');
        long100.setCharAt(97, '|');
        due("9 fault ahead of the end", house(new DoorSticks(), long100.toString()), -107);
        DoorSticks x = new DoorSticks();
        house(x, "swell 1 k=1&;");
        String[] begun = {"s", "swel", "swell", "swell ", "swell 1", "swell 1 ", "swell 1 k", "swell 1 k=",
            "swell 1 k=1&", ""};
        for (String text : begun) {
            due("9 the end, whatever was there: " + text, house(x, text), -10 - text.length());
        }
        due("9 one clause, whatever was there", house(x, "swell 1 k=2"), 0);
    }

    /** SWELLING shows in SWELL: with WATER of 40 at both sides it is twice as much. */
    private static int swelling(String e, int kind, int number, int month) {
        DoorSticks x = new DoorSticks();
        house(x, "swell 1 " + e);
        allAirs(x, 40);
        for (int d = 0; d <= number; d++) {
            x.door(kind, 0);
            x.water(d, 0, 40);
            x.water(d, 1, 41);
        }
        x.sag(number, 6);
        x.mend(number, 3, 1, 0);
        months(x, month);
        return x.of(number, 7) / 2;
    }

    private static void promise9Tests() {
        String holds = "k=3 d=2 w=4 s=6 p=1 m=1 k<4 k>2 w<5 w>3 s<7 s>5 p<2 p>0 m<2 m>0 d>1 d<3 k=03 "
            + "k=3&d=2 k=9|d=2 d=2|k=9 !k=9 !!k=3 (k=3) k=3|k=3&k=9 (k=9|k=3)&d=2 k=9&k=9|k=3 !k=9&d=2 !(k=9&d=2)";
        String fails = "k=4 d=1 w=5 s=5 p=2 m=13 k<3 k>3 w<4 w>4 s<6 s>6 p<1 p>1 m<1 m>1 d>2 d<2 k=30 "
            + "k=3&d=9 k=9|d=9 !k=3 !!k=9 (k=9) (k=3|k=3)&k=9 k=9&(k=9|k=3) !k=3&d=2 !(k=3&d=2) !k=9&d=9";
        for (String e : holds.split(" ")) {
            due("9 holds: " + e, swelling(e, 3, 2, 13), 1);
        }
        for (String e : fails.split(" ")) {
            due("9 fails: " + e, swelling(e, 3, 2, 13), 0);
        }
        DoorSticks x = withDoors(0, 0);
        due("9 no swell CLAUSES: 1", x.of(0, 7), 2);
        house(x, "draw 5 k=0;sink 1");
        due("9 no swell CLAUSES at all: 1", x.of(0, 7), 2);
        house(x, "swell 5 k=1");
        due("9 swell CLAUSES of which none holds: 0", x.of(0, 7), 0);
        house(x, "swell 99 k=0;swell 99 k=0;swell 3 k=0;swell 50 k=1");
        due("9 the n of all that hold, by 20 behind the product", x.of(0, 7), 201 * 50 / 20);
    }

    private static void promise10() {
        DoorSticks x = withDoors();
        house(x, "sink 2;draught 3");
        x.lean(17);
        x.air(3, 33);
        x.month();
        due("10 sink", x.told(0), 2);
        due("10 draught", x.told(1), 3);
        due("10 MONTH", x.told(2), 1);
        due("10 LEAN", x.told(3), 17);
        due("10 AIR", x.told(13), 33);
        due("10 AIR", x.told(21), 50);
        for (int what : new int[] {-1, 4, 9, 22, MIN, MAX}) {
            due("10 NONE " + what, x.told(what), -1);
        }
    }

    private static void promise11() {
        DoorSticks x = withDoors(0, 0, 0, 0);
        house(x, "draw 3 w>6;draw 2 w<5|m=0;draw 9 s>4;sink 6");
        x.air(0, 99);
        x.air(1, 20);
        x.water(0, 1, 91);
        x.mend(1, 3, 0, 0);
        due("11 which it is", x.month(), 1);
        due("11 by 2, cut", x.of(0, 2), 74);
        due("11 by 2, cut", x.of(0, 3), 95);
        due("11 with PAINT by 8, cut", x.of(1, 2), 56);
        due("11 without", x.of(1, 3), 74);
        // w is 8 and 6 by then, and m still 0.
        due("11 SAG by how it is then", x.of(0, 5), 5);
        due("11 SAG by MONTH as it was", x.of(1, 5), 2);
        due("11 next", x.month(), 2);
        due("11 cut toward 0", x.of(0, 2), 47);
        due("11 cut toward 0", x.of(0, 3), 58);
        due("11 with PAINT cut toward 0", x.of(1, 2), 52);
        due("11 SAG by SAG", x.of(0, 5), 5 + 9);
        due("11 SAG by WATER", x.of(1, 5), 2 + 2);
        months(x, 1);
        due("11 SAG 20 at most", x.of(0, 5), 20);
        months(x, 8);
        due("11 no LEAN in MONTH 11", x.told(3), 0);
        due("11 MONTH 12", x.month(), 12);
        due("11 sink", x.told(3), 6);
        months(x, 11);
        due("11 MONTH 23", x.told(3), 6);
        months(x, 13);
        due("11 MONTH 36", x.told(3), 18);
        months(x, 12);
        due("11 LEAN 20 at most", x.told(3), 20);
        DoorSticks four = withDoors(0, 0, 1, 0, 2, 0, 3, 0);
        house(four, "draw 3 d=3|d=1");
        four.air(0, 0);
        due("11 four DOORS", four.month(), 1);
        for (int d = 0; d < 4; d++) {
            due("11 each DOOR's WATER", four.of(d, 2), 25);
            due("11 each DOOR's SAG", four.of(d, 5), d % 2 * 3);
        }
        lastMonth();
    }

    /** More calls than the document vouches for, but there is no other way to MONTH 9999. */
    private static void lastMonth() {
        DoorSticks x = withDoors(0, 0);
        house(x, "sink 1");
        months(x, 9997);
        x.air(3, 0);
        x.lean(0);
        due("11 last but one", x.month(), 9998);
        due("11 the last", x.month(), 9999);
        due("11 STATE", x.month(), -3);
        due("11 STATE changes nothing", x.told(2), 9999);
        due("13 beyond 9999: AIR of MONTH 3", x.run(0, 1, 6), 50 / 2);
        due("13 beyond 9999: LEAN at 10008", x.run(0, 8, 0), 4);
        due("13 beyond 9999: LEAN at 10008", x.run(0, 9, 0), 3);
        due("11 all stands", x.of(0, 2), 50);
    }

    private static void promise12() {
        DoorSticks x = withDoors(0, 0, 0, 0);
        due("12 PLANE", x.mend(0, 0, 2, 9), 4);
        due("12 PLANE", x.mend(0, 0, 2, 0), 13);
        due("12 CUT", x.of(0, 22), 13);
        due("12 other SPOT", x.of(0, 23), 4);
        due("12 other DOOR", x.of(1, 22), 4);
        for (int i = 0; i < 10; i++) {
            x.mend(0, 0, 2, 9);
        }
        due("12 99 at most", x.of(0, 22), 99);
        due("12 STRIP", x.mend(0, 4, 5, 3), 4);
        due("12 STRIP", x.mend(0, 4, 5, 3), 1);
        due("12 0 at least", x.of(0, 25), 0);
        due("12 PACK", x.mend(0, 1, 77, 6), 0);
        due("12 PACK", x.mend(0, 1, -77, 6), 6);
        due("12 9 at most", x.of(0, 6), 9);
        x.sag(0, 11);
        due("12 SCREWS", x.mend(0, 2, 99, -7), 11);
        due("12 SAG 0", x.of(0, 5), 0);
        due("12 PAINT", x.mend(0, 3, 1, 99), 0);
        due("12 PAINT stays", x.mend(0, 3, 1, -1), 1);
        due("12 PAINT of that side", x.of(0, 4), 2);
        due("12 PAINT INSIDE", x.mend(0, 3, 0, 0), 0);
        due("12 NONE door", x.mend(2, 0, 0, 0), -1);
        due("12 NONE door", x.mend(-1, 0, 0, 0), -1);
        due("12 NONE mend", x.mend(0, 5, 0, 0), -1);
        due("12 NONE mend", x.mend(0, -1, 0, 0), -1);
        for (int mend : new int[] {0, 4}) {
            due("12 NONE where", x.mend(0, mend, 6, 0), -1);
            due("12 NONE where ahead of BAD", x.mend(0, mend, -1, 10), -1);
            due("12 BAD", x.mend(0, mend, 0, 10), -2);
            due("12 BAD", x.mend(0, mend, 5, -1), -2);
        }
        due("12 NONE where of PAINT", x.mend(0, 3, 2, 0), -1);
        due("12 NONE where of PAINT", x.mend(0, 3, -1, 0), -1);
        due("12 BAD n of PACK", x.mend(0, 1, 0, 10), -2);
        due("12 BAD n of PACK", x.mend(0, 1, 0, -1), -2);
    }

    private static void promise13() {
        DoorSticks x = withDoors(0, 0, 3, 2);
        house(x, "draw 1 m<2;sink 3;swell 2 w>5;swell 1 m=2");
        x.air(0, 90);
        x.air(1, 10);
        x.mend(1, 3, 1, 0);
        due("13 now", x.run(0, 0, 2), 4);
        due("13 INSIDE behind 1", x.run(1, 1, 6), 70);
        due("13 OUTSIDE behind 1", x.run(1, 1, 7), 55);
        due("13 SAG behind 1", x.run(1, 1, 8), 1);
        due("13 INSIDE behind 2", x.run(1, 2, 6), 40);
        due("13 OUTSIDE behind 2", x.run(1, 2, 7), 50);
        due("13 SAG behind 60", x.run(1, 60, 8), 10);
        due("13 SWELL behind 1", x.run(0, 1, 2), 4 - 7 - 1);
        due("13 HANG behind 1", x.run(1, 1, 4), 4 - 3);
        due("13 SWELL by MONTH behind 2", x.run(0, 2, 2), 4 - 2 - 2);
        due("13 BEND behind 1", x.run(1, 1, 3), 4 - 6 + 3 - 1);
        due("13 LEAN behind 12", x.run(0, 12, 0), 1);
        due("13 LEAN behind 60", x.run(0, 60, 0), -11);
        due("13 HANG and LEAN", x.run(0, 24, 1), 4 + 4 - 6);
        due("13 PACK", x.run(0, 60, 5), 4);
        due("13 nothing changed", x.told(2), 0);
        due("13 nothing changed", x.of(1, 2), 50);
        due("13 NONE door", x.run(2, 0, 0), -10001);
        due("13 NONE door", x.run(-1, 61, 0), -10001);
        due("13 NONE what", x.run(0, 0, 9), -10001);
        due("13 NONE what ahead of BAD", x.run(0, 61, -1), -10001);
        due("13 BAD", x.run(0, 61, 0), -10002);
        due("13 BAD", x.run(0, -1, 8), -10002);
    }

    private static void promise14() {
        DoorSticks x = withDoors(0, 0, 0, 0, 0, 0);
        house(x, "sink 1;draw 1 d=1");
        x.lean(4);
        x.mend(0, 0, 1, 9);
        due("14 behind how many", x.first(0, 0), 12);
        due("14 where", x.first(0, 1), 0);
        due("14 SAG: 4 less HANG, 2 less SWELL less HANG", x.first(1, 0), 3);
        due("14 the SPOT", x.first(1, 1), 2);
        x.lean(0);
        due("14 behind 60", x.first(2, 0), 60);
        due("14 the least SPOT", x.first(2, 1), 0);
        x.month();
        due("14 behind 59", x.first(2, 0), 59);
        house(x, "sink 0");
        due("14 never by then", x.first(2, 0), -5);
        due("14 never by then", x.first(2, 1), -5);
        house(x, "sink 1");
        x.mend(2, 0, 0, 1);
        x.mend(2, 0, 1, 1);
        due("14 beyond 60", x.first(2, 0), -5);
        x.lean(20);
        due("14 now", x.first(0, 0), 0);
        due("14 nothing changed", x.told(2), 1);
        due("14 NONE door", x.first(3, 0), -1);
        due("14 NONE door", x.first(-1, 0), -1);
        due("14 NONE what", x.first(0, 2), -1);
        due("14 NONE what", x.first(0, -1), -1);
    }

    private static void promise15() {
        DoorSticks x = withDoors(0, 0);
        house(x, "swell 4 w<99;draw 1 m=3;sink 2");
        x.air(0, 90);
        x.air(1, 10);
        // WATER: 50, 70, 40, 45, 47 .. ; SWELL 10, 14, 8, 9, 9 ..
        due("15 now, least", x.worst(0, 2, 0, 0), -6);
        due("15 now, greatest", x.worst(0, 2, 0, 1), -6);
        due("15 1", x.worst(0, 2, 1, 0), -10);
        due("15 1", x.worst(0, 2, 1, 1), -6);
        due("15 2", x.worst(0, 2, 2, 1), -4);
        due("15 2 keeps the least", x.worst(0, 2, 2, 0), -10);
        due("15 other SPOT", x.worst(0, 4, 4, 0), 3);
        due("15 other SPOT", x.worst(0, 4, 3, 0), 4);
        due("15 LEAN", x.worst(0, 0, 60, 0), 4 - 10);
        due("15 LEAN", x.worst(0, 0, 11, 0), 4);
        due("15 the greatest", x.worst(0, 0, 60, 1), 4);
        due("15 NONE door", x.worst(1, 0, 0, 0), -10001);
        due("15 NONE spot", x.worst(0, 6, 0, 0), -10001);
        due("15 NONE spot", x.worst(0, -1, 0, 0), -10001);
        due("15 NONE what", x.worst(0, 0, 0, 2), -10001);
        due("15 NONE what ahead of BAD", x.worst(0, 0, 61, -1), -10001);
        due("15 BAD", x.worst(0, 0, 61, 0), -10002);
        due("15 BAD", x.worst(0, 0, -1, 1), -10002);
    }

    private static void promise16() {
        DoorSticks x = withDoors(0, 0, 6, 9);
        house(x, "swell 4 w<99;sink 9");
        x.air(0, 90);
        x.air(11, 10);
        due("16 OFF at 2", x.off(0, 2), 10);
        due("16 OFF at 0, behind 12", x.off(0, 0), 5);
        due("16 OFF at 4", x.off(0, 4), 0);
        due("16 OFF of LEANED", x.off(1, 4), 9 + 4 - 4);
        // WATER falls to 29 behind MONTH 12: SWELL 5, so that GAP is 4 + 10 - 5 then.
        due("16 FITS: draught 9", x.off(0, -1), 1);
        house(x, "swell 4 w<99;sink 9;draught 8");
        due("16 does not FIT: draught 8", x.off(0, -1), 0);
        x.mend(0, 1, 0, 9);
        due("16 OFF at 5: PACK", x.off(0, 5), 5);
        x.mend(1, 0, 0, 4);
        house(x, "swell 0 k=9;draught 40");
        x.lean(0);
        due("16 FITS", x.off(1, -1), 1);
        house(x, "swell 0 k=9;draught 7");
        x.mend(1, 2, 0, 0);
        due("16 DRAUGHT at 0 and 1", x.off(1, -1), 0);
        DoorSticks top = withDoors(0, 0);
        top.mend(0, 0, 0, 6);
        due("16 DRAUGHT at 0 alone", top.off(0, -1), 0);
        top.mend(0, 4, 0, 1);
        due("16 FITS at draught itself", top.off(0, -1), 1);
        due("16 nothing changed", x.of(0, 22), 4);
        due("16 NONE door", x.off(2, 0), -1);
        due("16 NONE spot", x.off(0, 6), -1);
        due("16 NONE spot", x.off(0, -2), -1);
        DoorSticks far = withDoors(0, 0);
        house(far, "swell 99 w<99;swell 99 w<99;swell 99 w<99");
        due("16 CUT also above 99", far.off(0, 2), 297 * 50 / 20 - 4);
        due("16 FITS above 99", far.off(0, -1), 1);
        DoorSticks year = withDoors(0, 0);
        house(year, "draw 5 m=0;sink 5");
        year.month();
        due("16 none behind 12 MONTHS yet", year.off(0, 4), 6);
        due("16 behind 12 MONTHS from 1 on", year.off(0, 0), 1);
    }

    private static void promise17() {
        DoorSticks x = withDoors(0, 0);
        due("17 nothing to do", x.cheapest(0, 0), 0);
        due("17 nothing to do", x.cheapest(0, 1), 0);
        x.sag(0, 4);
        due("17 PACK is cheapest", x.cheapest(0, 0), 2);
        due("17 PACK is cheapest", x.cheapest(0, 1), 1);
        x.sag(0, 5);
        due("17 SCREWS", x.cheapest(0, 0), 4);
        due("17 SCREWS", x.cheapest(0, 1), 2);
        x.sag(0, 0);
        x.lean(5);
        due("17 CUTS at two SPOTS", x.cheapest(0, 0), 1);
        due("17 CUTS at two SPOTS", x.cheapest(0, 1), 6);
        x.sag(0, 7);
        due("17 CUTS as OFF is with SCREWS done", x.cheapest(0, 0), 5);
        due("17 or PACK: HANG 5 helps at 1, not at 2, 4", x.cheapest(0, 1), 8);
        x.lean(0);
        x.sag(0, 0);
        allAirs(x, 99);
        house(x, "swell 1 w>5");
        due("17 one or two SPOTS rub", x.cheapest(0, 1), 0);
        house(x, "swell 2 w>5");
        due("17 SPOTS 2 and 3: 6; PAINT does not keep it", x.cheapest(0, 0), 1);
        DoorSticks painted = withDoors(0, 0);
        house(painted, "swell 3 w>5");
        painted.air(0, 90);
        due("17 PAINT for 5 ahead of two CUTS for 6", painted.cheapest(0, 0), 8);
        due("17 PAINT for 5", painted.cheapest(0, 1), 5);
        DoorSticks packed = withDoors(0, 0);
        packed.mend(0, 1, 0, 5);
        due("17 PACK itself RUBS at 5: CUT", packed.cheapest(0, 0), 1);
        due("17 PACK itself RUBS at 5: CUT", packed.cheapest(0, 1), 3);
        DoorSticks even = withDoors(0, 0);
        even.sag(0, 5);
        even.mend(0, 0, 2, 3);
        // Only SPOT 4 rubs: CUT 3, PACK 1 leaves HANG 3.
        due("17 PACK", even.cheapest(0, 0), 2);
        even.sag(0, 9);
        even.mend(0, 0, 2, 9);
        even.mend(0, 1, 0, 3);
        due("17 PACK from 3 to 5 RUBS at 5, so SCREWS", even.cheapest(0, 0), 4);
        due("17 costs", even.cheapest(0, 1), 2);
        DoorSticks full = withDoors(0, 0);
        full.mend(0, 0, 5, 9);
        full.mend(0, 1, 0, 8);
        full.sag(0, 14);
        full.mend(0, 0, 2, 9);
        due("17 PACK 9 at most, HANG 5: SCREWS", full.cheapest(0, 0), 4);
        full.mend(0, 0, 4, 1);
        due("17 PACK 9 at most, HANG 5 of 5", full.cheapest(0, 0), 2);
        due("17 nothing changed", full.of(0, 6), 8);
        due("17 NONE door", x.cheapest(1, 0), -1);
        due("17 NONE what", x.cheapest(0, 2), -1);
        due("17 NONE what", x.cheapest(0, -1), -1);
        leastAsBits();
    }

    /** SPOT 4 for 3 by CUTS alone, or for 3 by PACK and SCREWS: the least as bits. */
    private static void leastAsBits() {
        DoorSticks x = withDoors(0, 0);
        house(x, "draw 2 m=0");
        x.sag(0, 7);
        x.mend(0, 0, 2, 9);
        x.mend(0, 4, 4, 4);
        due("17 of several the least as bits", x.cheapest(0, 0), 1);
        due("17 the same cost", x.cheapest(0, 1), 3);
        DoorSticks all = withDoors(0, 0);
        house(all, "swell 9 w>5;draw 1 m=0");
        all.air(0, 90);
        all.lean(5);
        all.sag(0, 7);
        all.mend(0, 0, 1, 9);
        all.mend(0, 4, 4, 4);
        // CUT 0 at SPOT 4 asks for PACK and SCREWS, SPOTS 2 and 3 for PAINT, SPOT 0 can only be CUT.
        due("17 all four", all.cheapest(0, 0), 15);
        due("17 all four", all.cheapest(0, 1), 3 + 1 + 2 + 5);
    }

    private static void promise18() {
        DoorSticks x = withDoors(0, 0, 3, 1);
        due("18 STATE", x.why(0, 2), -3);
        x.lean(5);
        due("18 LEAN", x.why(0, 0), 4);
        x.sag(0, 5);
        due("18 HANG", x.why(0, 4), 2);
        due("18 HANG alone", x.why(0, 2), 2);
        due("18 no more RUBS: HANG more", x.why(0, 1), -3);
        x.sag(0, 3);
        due("18 SWELL or HANG", x.why(0, 2), 1 | 2);
        x.water(0, 0, 60);
        x.water(0, 1, 40);
        x.sag(0, 1);
        due("18 SWELL or HANG or BEND", x.why(0, 2), 1 | 2 | 8);
        x.mend(0, 4, 3, 4);
        due("18 at 3 SWELL or BEND, HANG makes it no less", x.why(0, 3), 0);
        x.mend(0, 0, 3, 1);
        due("18 at 3", x.why(0, 3), 1 | 8);
        x.mend(0, 1, 0, 9);
        due("18 at 5 nothing helps", x.why(0, 5), 0);
        x.mend(0, 4, 0, 4);
        due("18 LEAN, just so", x.why(0, 0), 4);
        x.mend(0, 0, 0, 4);
        x.sag(1, 1);
        x.mend(1, 4, 2, 3);
        due("18 each just not enough", x.why(1, 2), 0);
        x.lean(4);
        due("18 STATE: just not", x.why(0, 0), -3);
        due("18 NONE door", x.why(2, 0), -1);
        due("18 NONE spot", x.why(0, 6), -1);
        due("18 NONE spot", x.why(0, -1), -1);
        DoorSticks leaned = withDoors(6, 0);
        leaned.lean(20);
        due("18 LEAN in GAP itself, HANG as it is", leaned.why(0, 4), 2);
        due("18 at 1: HANG 10 is more", leaned.why(0, 1), 4);
    }

    private static void promise19() {
        DoorSticks x = withDoors(0, 0);
        house(x, "swell 2 w>4");
        for (int m = 0; m < 9; m++) {
            x.air(m, 20);
        }
        // In AIR 50 SWELL is 5, so it RUBS; in AIR 20 WATER is 35.
        due("19 above", x.odds(0, 0), 1);
        due("19 below", x.odds(0, 1), 4);
        due("19 none", withDoors(0, 0).odds(0, 0), 0);
        due("19 none", withDoors(0, 0).odds(0, 1), 1);
        house(x, "swell 0 k=0;draw 9 m=0");
        due("19 MONTH as it is: all", x.odds(0, 0), 1);
        due("19 all", x.odds(0, 1), 1);
        x.month();
        x.sag(0, 0);
        due("19 MONTH as it is: none", x.odds(0, 0), 0);
        house(x, "sink 5");
        months(x, 10);
        due("19 LEAN sinks behind MONTH 11", x.odds(0, 0), 1);
        due("19 nothing changed", x.told(2), 11);
        due("19 NO door", x.odds(1, 0), Long.MIN_VALUE);
        due("19 NO door", x.odds(-1, 0), Long.MIN_VALUE);
        due("19 NO part", x.odds(0, 2), Long.MIN_VALUE);
        due("19 NO part", x.odds(0, -1), Long.MIN_VALUE);
    }

    private static void promise20() {
        DoorSticks x = withDoors(0, 0, 0, 0);
        x.air(0, 99);
        x.mend(0, 3, 1, 0);
        due("20 INSIDE: 50 and 24 by 12", x.mean(0, 0, 0), 52);
        due("20 INSIDE", x.mean(0, 0, 1), 1);
        due("20 OUTSIDE: 50 and 6 by 12", x.mean(0, 1, 0), 101);
        due("20 OUTSIDE", x.mean(0, 1, 1), 2);
        allAirs(x, 0);
        x.water(1, 0, 1);
        x.water(1, 1, 0);
        due("20 cut toward 0: 1 stays", x.mean(1, 0, 0), 1);
        due("20 none", x.mean(1, 1, 0), 0);
        due("20 none", x.mean(1, 1, 1), 1);
        x.air(5, 2);
        due("20 1 by 12", x.mean(1, 1, 0), 1);
        due("20 1 by 12", x.mean(1, 1, 1), 12);
        due("20 nothing changed", x.of(0, 2), 50);
        due("20 NO door", x.mean(2, 0, 0), Long.MIN_VALUE);
        due("20 NO side", x.mean(0, 2, 0), Long.MIN_VALUE);
        due("20 NO side", x.mean(0, -1, 0), Long.MIN_VALUE);
        due("20 NO part", x.mean(0, 0, 2), Long.MIN_VALUE);
        due("20 NO part", x.mean(0, 0, -1), Long.MIN_VALUE);
    }

    private static void promise21() {
        DoorSticks x = withDoors(0, 0, 0, 0, 0, 0, 0, 0);
        due("21 none", x.changed(0), 0);
        due("21 none", x.changed(1), -5);
        x.sag(3, 6);
        due("21 equal CUTS: none", x.changed(0), 0);
        x.mend(1, 0, 4, 2);
        due("21 the CUT at 4 helps 3", x.changed(0), 1);
        due("21 10 times the lesser and the other", x.changed(1), 13);
        x.mend(2, 0, 2, 4);
        due("21 and that at 2", x.changed(0), 2);
        due("21 the first", x.changed(1), 13);
        x.mend(0, 0, 2, 9);
        due("21 three", x.changed(0), 3);
        due("21 the first is 03", x.changed(1), 3);
        x.mend(2, 4, 2, 4);
        x.mend(0, 4, 2, 9);
        x.sag(1, 6);
        due("21 as many is not fewer", x.changed(0), 0);
        x.sag(1, 0);
        x.sag(3, 0);
        due("21 none RUBS", x.changed(0), 0);
        x.lean(4);
        due("21 just none RUBS", x.changed(0), 0);
        DoorSticks top = withDoors(6, 0, 0, 0);
        top.sag(0, 8);
        top.lean(5);
        // LEANED: HANG 10, so its CUT at 1 may be 0; DOOR: at 0 and 1 LEAN 5 of CUT 4.
        due("21 both RUB at 0 whatever", top.changed(0), 0);
        top.mend(0, 0, 1, 1);
        due("21 at 1", top.changed(1), 1);
        DoorSticks first = withDoors(0, 0, 0, 0);
        first.lean(3);
        first.mend(0, 4, 0, 2);
        first.mend(0, 0, 4, 4);
        first.sag(1, 5);
        due("21 at 0 one RUBS either way, at 4 fewer", first.changed(0), 1);
        due("21 nothing changed", x.of(1, 24), 6);
        due("21 NONE", x.changed(2), -1);
        due("21 NONE", x.changed(-1), -1);
        due("21 no DOORS", new DoorSticks().changed(1), -5);
    }

    private static void promise22() {
        DoorSticks x = new DoorSticks();
        due("22 NONE", x.book(6, 0), -1);
        due("22 NONE", x.book(-2, 100), -1);
        due("22 BAD", x.book(0, 100), -2);
        due("22 BAD", x.book(5, -100), -2);
        for (int i = 1; i <= 12; i++) {
            due("22 how many", x.book(i % 6, i % 2 == 0 ? 99 : -99), i);
        }
        due("22 FULL", x.book(0, 0), -4);
        due("22 BAD ahead of FULL", x.book(0, 100), -2);
        due("22 NONE ahead of FULL", x.book(6, 100), -1);
        due("22 count", x.count(2), 12);
        due("22 empty, whatever the other is", x.book(-1, MAX), 0);
        due("22 count", x.count(2), 0);
        due("22 again", x.book(0, 0), 1);
    }

    private static void promise23() {
        DoorSticks x = withDoors(0, 0, 3, 5);
        due("23 no rows", x.looked(0, 0), -5);
        house(x, "swell 2 w>4;draw 1 m<2");
        x.air(0, 90);
        // GAP at 2 now: 4 - 5; behind 1: 4 - 7 - 1; SPOT 4 behind 2: 4 - 2.
        x.book(2, -1);
        due("23 right", x.looked(0, 0), -5);
        x.book(2, -4);
        x.book(4, 4);
        due("23 by 0: the second", x.looked(0, 0), 2);
        due("23 by 1: the third still", x.looked(0, 1), 2);
        due("23 by 2: none", x.looked(0, 2), -5);
        due("23 other DOOR by 4: the first", x.looked(1, 4), 0);
        due("23 other DOOR by 5", x.looked(1, 5), 2);
        due("23 other DOOR by 7", x.looked(1, 7), -5);
        due("23 nothing changed", x.told(2), 0);
        due("23 NONE", x.looked(2, 0), -1);
        due("23 NONE ahead of BAD", x.looked(-1, 10), -1);
        due("23 BAD", x.looked(0, 10), -2);
        due("23 BAD", x.looked(0, -1), -2);
        DoorSticks year = withDoors(0, 0);
        house(year, "draw 1 m>9");
        year.mend(0, 0, 2, 9);
        for (int i = 0; i < 12; i++) {
            year.book(4, i == 11 ? 2 : 4);
        }
        due("23 the twelfth row is behind 11 MONTHS", year.looked(0, 0), 11);
        due("23 by 1", year.looked(0, 1), -5);
    }

    private static void promise24() {
        DoorSticks x = withDoors(0, 0, 1, 1);
        int[] gaps = {4, 4, 2, 2, 4, 4};
        due("24 the TAPE holds nothing", x.judge(0, 0, 0), 100);
        due("24 nothing, place below 0", x.judge(0, -1, 0), 100);
        x.tape(0, 1, 8);
        for (int i = 0; i < 6; i++) {
            x.item(0, 1 + i, gaps[i]);
        }
        due("24 none is otherwise", x.judge(0, 1, 0), -5);
        due("24 SWOLLEN is at 2", x.judge(0, 1, 1), 2);
        x.item(0, 7, 9);
        due("24 six are looked at, no more", x.judge(0, 1, 0), -5);
        x.item(0, 7, 0);
        x.tape(2, 1, 6);
        x.shift(0, 1, 2, 0, 6);
        due("24 the row ends behind all six", x.judge(2, 0, 0), -5);
        due("24 at once", x.judge(0, 0, 0), 0);
        due("24 the row ends", x.judge(0, 7, 0), 0);
        x.item(0, 7, 4);
        due("24 the row ends behind 1", x.judge(0, 7, 0), 101);
        due("24 the row ends behind 2", x.judge(0, 6, 0), 102);
        due("24 the place behind the row", x.judge(0, 8, 0), 100);
        due("24 far behind the row", x.judge(0, MAX, 0), 100);
        due("24 the place is below 0", x.judge(0, -1, 0), 100);
        due("24 the place is far below 0", x.judge(0, MIN, 0), 100);
        x.tape(0, 1, 0);
        due("24 a row of no items", x.judge(0, 0, 0), 100);
        for (int sort : new int[] {0, 2, 3, 4}) {
            x.tape(1, sort, 6);
            due("24 CAST", x.judge(1, 0, 0), -12);
            due("24 CAST ahead of the place", x.judge(1, -1, 0), -12);
        }
        due("24 NONE tape", x.judge(6, 0, 0), -1);
        due("24 NONE tape", x.judge(-1, 0, 0), -1);
        due("24 NONE door ahead of CAST", x.judge(1, 0, 2), -1);
        due("24 NONE door", x.judge(0, 0, -1), -1);
        x.tape(0, 1, 6);
        x.lean(20);
        x.item(0, 0, -16);
        due("24 GAP below 0", x.judge(0, 0, 0), 1);
    }

    private static void promise25And26() {
        DoorSticks x = new DoorSticks();
        due("26 STATE", x.undo(), -3);
        due("25 no DOORS", x.image(), 0);
        x.door(1, 4);
        house(x, "sink 2");
        x.lean(1);
        x.air(4, 44);
        x.month();
        x.book(4, 9);
        x.book(4, 7);
        x.water(0, 1, 11);
        x.sag(0, 2);
        x.mend(0, 3, 0, 0);
        x.mend(0, 1, 0, 3);
        x.mend(0, 0, 4, 5);
        due("25 the BOOK ahead", x.looked(0, 0), 1);
        int[] was = snapshot(x);
        due("25 how many DOORS", x.image(), 1);
        due("25 changes nothing", was[0], snapshot(x)[0]);
        x.door(6, 1);
        x.lean(9);
        x.air(4, 4);
        x.book(-1, 0);
        x.book(5, 5);
        house(x, "sink 9;draught 2");
        feed(x, "abc");
        months(x, 14);
        x.water(0, 0, 1);
        x.sag(0, 20);
        x.mend(0, 3, 1, 0);
        x.mend(0, 1, 0, 3);
        x.mend(0, 4, 4, 5);
        x.tape(2, 0, 4);
        due("26 how many DOORS", x.undo(), 1);
        same("26 all is as THE IMAGE", was, snapshot(x));
        due("26 HOUSES stay", x.count(1), 2);
        due("26 THE TEXT stays", x.count(3), 3);
        due("26 TAPES stay", x.read(2, 0), 0);
        due("26 the BOOK's rows", x.looked(0, 0), 1);
        due("26 the BOOK's rows", x.looked(0, 2), -5);
        x.sag(0, 19);
        x.month();
        due("26 THE IMAGE stays", x.undo(), 1);
        same("26 as often as wanted", was, snapshot(x));
        due("26 a DOOR comes new", x.door(0, 2), 1);
        due("26 with WATER as at first", x.of(1, 2), 50);
        x.house();
        due("26 the next HOUSE's number", house(x, "sink 7"), 2);
        x.undo();
        due("26 the HOUSE that held", x.told(0), 2);
        withoutHouse();
    }

    private static void withoutHouse() {
        DoorSticks x = new DoorSticks();
        x.image();
        x.door(0, 0);
        x.act(0, 0, 1);
        house(x, "sink 7;draught 1");
        due("26 no DOORS", x.undo(), 0);
        due("26 no HOUSE holds", x.told(1), 9);
        due("26 the DOOR is none", x.of(0, 0), -10001);
        due("26 THE TRACE stays", x.trace(0), 10);
    }

    private static int[] snapshot(DoorSticks x) {
        int[] all = new int[60];
        for (int what = 0; what < 22; what++) {
            all[what] = x.told(what);
        }
        for (int what = 0; what < 36; what++) {
            all[22 + what] = x.of(0, what);
        }
        all[58] = x.count(0);
        all[59] = x.count(2);
        return all;
    }

    private static void same(String what, int[] want, int[] got) {
        for (int i = 0; i < want.length; i++) {
            due(what + " (" + i + ")", got[i], want[i]);
        }
    }

    private static void act(DoorSticks x, int door, int act, int arg, int want, int... bodies) {
        due("27 act " + act + " of KIND " + x.of(door, 0), x.act(door, act, arg), want);
        due("30 bodies that ran", x.count(4), bodies.length);
        for (int i = 0; i < bodies.length; i++) {
            due("28 body " + i, x.trace(i), bodies[i]);
        }
        due("28 NONE behind", x.trace(bodies.length), -1);
        due("28 NONE ahead", x.trace(-1), -1);
    }

    private static void promise27And28() {
        DoorSticks x = withDoors(0, 7, 0, 7, 1, 7, 2, 7);
        act(x, 1, 0, 5, 6, 10);
        act(x, 1, 1, 5, -1, 11, 10);
        act(x, 1, 2, 5, -2, 12, 11, 10);
        act(x, 2, 0, 5, 7, 10);
        act(x, 2, 1, 6, 1 ^ 6, 20, 11, 10);
        act(x, 2, 2, 6, 2 * (1 ^ 6), 12, 20, 11, 10);
        act(x, 3, 0, 5, 18, 30, 10);
        act(x, 3, 1, 5, 11, 11, 30, 10);
        act(x, 3, 2, 5, 22, 12, 11, 30, 10);
        due("27 no such DOOR", x.act(4, 0, 5), 0);
        due("27 no TRACE then", x.count(4), 0);
        due("27 no TRACE then", x.trace(0), -1);
        x.act(0, 0, 5);
        due("27 no such act", x.act(0, 3, 5), 0);
        due("27 no TRACE then", x.count(4), 0);
        x.act(0, 0, 5);
        due("27 no such act", x.act(0, -1, 5), 0);
        due("27 no TRACE then", x.trace(0), -1);
        due("27 wraps", x.act(1, 0, MAX), MIN);
        due("27 wraps", x.act(1, 2, 1 << 30), (1 << 31) - 12);
        due("28 NONE", x.trace(MIN), -1);
        due("28 NONE", x.trace(MAX), -1);
        DoorSticks y = withDoors(3, 7, 4, 7, 5, 7, 6, 7);
        act(y, 0, 0, 5, 5, 10);
        act(y, 0, 1, 5, -2, 11, 10);
        act(y, 0, 2, 5, -4 - 6, 40, 12, 11, 10, 11, 10);
        act(y, 1, 0, 5, -6, 50, 10);
        act(y, 1, 1, 5, (-7 - 7) ^ 6, 51, 20, 11, 50, 10);
        act(y, 1, 2, 5, 2 * ((-7 - 7) ^ 6), 12, 51, 20, 11, 50, 10);
        act(y, 2, 0, 5, 17, 30, 10);
        act(y, 2, 1, 5, 10, 11, 30, 10);
        act(y, 2, 2, 5, 2 * (9 + 2 - 7), 60, 12, 11, 30, 10);
        act(y, 3, 0, 5, 8 ^ 7, 71, 10);
        act(y, 3, 1, 5, (8 ^ 7) - 7 + 5, 70, 11, 71, 10, 10);
        act(y, 3, 2, 5, 2 * ((8 ^ 7) - 2) + (4 ^ 7) - 7 + 5, 40, 12, 70, 11, 71, 10, 10, 70, 11, 71, 10, 10);
        due("27 changes nothing", y.of(3, 1), 7);
    }

    private static void promise29() {
        DoorSticks x = withDoors(4, 0, 5, 0, 6, 0, 0, 0);
        String[] under = {"0 1 4", "0 2 5", "0 3 6", "0"};
        for (int d = 0; d < 4; d++) {
            for (int k = 0; k < 7; k++) {
                boolean is = under[d].indexOf('0' + k) >= 0;
                due("29 taken(" + d + ", " + k + ")", x.taken(d, k), is ? x.of(d, 0) : -12);
            }
        }
        due("29 BAD", x.taken(0, 7), -2);
        due("29 BAD ahead of NOTHING", x.taken(4, -1), -2);
        due("29 NOTHING", x.taken(4, 0), -11);
        due("29 NOTHING", x.taken(-1, 6), -11);
    }

    private static void promise30() {
        DoorSticks x = withDoors(0, 0, 0, 0);
        house(x, "sink 1");
        feed(x, "swe");
        x.book(0, 0);
        x.book(1, 0);
        x.book(1, 0);
        x.book(1, 0);
        x.act(0, 2, 1);
        int[] want = {2, 1, 4, 3, 3};
        for (int what = 0; what < 5; what++) {
            due("30 count " + what, x.count(what), want[what]);
        }
        for (int what : new int[] {-1, 5, MIN, MAX}) {
            due("30 BAD", x.count(what), -2);
        }
    }

    private static void promise31() {
        DoorSticks x = new DoorSticks();
        for (int sort = 0; sort < 5; sort++) {
            due("31 a row", x.tape(sort, sort, 60), 1);
            due("31 all 0", x.read(sort, 59), 0);
            due("31 60 items", x.read(sort, 60), Long.MIN_VALUE);
        }
        x.item(0, 3, 7);
        due("31 anew", x.tape(0, 0, 4), 1);
        due("31 all 0 anew", x.read(0, 3), 0);
        due("31 4 items", x.read(0, 4), Long.MIN_VALUE);
        due("31 none", x.tape(0, 0, 0), 1);
        due("31 no items, but a row", x.item(0, 0, 0), -13);
        due("31 nothing, n does not matter", x.tape(1, -1, 99), 1);
        due("31 nothing, n does not matter", x.tape(1, -1, -1), 1);
        due("31 nothing", x.item(1, 0, 0), -11);
        due("31 nothing", x.read(1, 0), Long.MIN_VALUE);
        due("31 NONE", x.tape(6, 0, 1), -1);
        due("31 NONE ahead of all", x.tape(-1, 5, 61), -1);
        due("31 BAD sort", x.tape(2, 5, 1), -2);
        due("31 BAD sort ahead of SIZE", x.tape(2, -2, -1), -2);
        due("31 BAD n", x.tape(2, 0, 61), -2);
        due("31 BAD n", x.tape(2, 0, MAX), -2);
        due("31 SIZE", x.tape(2, 0, -1), -14);
        due("31 SIZE", x.tape(2, 0, MIN), -14);
        due("31 refused, nothing changes", x.read(2, 59), 0);
    }

    private static void promise32And33() {
        DoorSticks x = new DoorSticks();
        long[] given = {200, 0x18000, 0x180000000L, 0x8000000000000000L, 2, -1, 0, 256, 65536, 1L << 32};
        long[][] want = {
            {-56, 0, 0, 0, 2, -1, 0, 0, 0, 0},
            {200, -32768, 0, 0, 2, -1, 0, 256, 0, 0},
            {200, 0x18000, MIN, 0, 2, -1, 0, 256, 65536, 0},
            given,
            {1, 1, 1, 1, 1, 1, 0, 1, 1, 1},
        };
        for (int sort = 0; sort < 5; sort++) {
            x.tape(sort, sort, 2);
            for (int i = 0; i < given.length; i++) {
                due("32 item", x.item(sort, 1, given[i]), 1);
                due("33 sort " + sort + " of " + given[i], x.read(sort, 1), want[sort][i]);
            }
            due("33 the other", x.read(sort, 0), 0);
            due("32 PLACE", x.item(sort, 2, 1), -13);
            due("32 PLACE", x.item(sort, -1, 1), -13);
            due("33 NO place", x.read(sort, 2), Long.MIN_VALUE);
            due("33 NO place", x.read(sort, -1), Long.MIN_VALUE);
        }
        due("32 NONE", x.item(6, 0, 1), -1);
        due("32 NONE", x.item(-1, 0, 1), -1);
        due("32 NOTHING", x.item(5, 0, 1), -11);
        due("32 NOTHING ahead of PLACE", x.item(5, -1, 1), -11);
        due("33 NO tape", x.read(6, 0), Long.MIN_VALUE);
        due("33 NO tape", x.read(-1, 0), Long.MIN_VALUE);
        due("33 nothing there", x.read(5, 0), Long.MIN_VALUE);
    }

    private static void promise34() {
        DoorSticks x = new DoorSticks();
        x.tape(0, 2, 5);
        x.tape(1, 2, 3);
        x.tape(2, 3, 5);
        for (int i = 0; i < 5; i++) {
            x.item(0, i, i + 1);
        }
        due("34 n", x.shift(0, 3, 1, 1, 2), 2);
        row("34", x, 1, 0, 4, 5);
        due("34 to the same, onward", x.shift(0, 0, 0, 1, 4), 4);
        row("34 as they were before", x, 0, 1, 1, 2, 3, 4);
        due("34 to the same, back", x.shift(0, 1, 0, 0, 4), 4);
        row("34 as they were before", x, 0, 1, 2, 3, 4, 4);
        due("34 none", x.shift(0, 5, 1, 3, 0), 0);
        due("34 PLACE behind the end", x.shift(0, 6, 1, 0, 0), -13);
        due("34 PLACE behind the other's end", x.shift(0, 0, 1, 4, 0), -13);
        due("34 PLACE beyond the end", x.shift(0, 4, 1, 0, 2), -13);
        due("34 PLACE beyond the other's end", x.shift(0, 0, 1, 2, 2), -13);
        due("34 PLACE n", x.shift(0, 0, 1, 0, -1), -13);
        due("34 PLACE i", x.shift(0, -1, 1, 0, 1), -13);
        due("34 PLACE j", x.shift(0, 0, 1, -1, 1), -13);
        due("34 PLACE does not wrap", x.shift(0, 1, 1, 1, MAX), -13);
        due("34 PLACE does not wrap", x.shift(0, MAX, 1, MAX, MAX), -13);
        due("34 CAST", x.shift(0, 0, 2, 0, 1), -12);
        due("34 CAST ahead of PLACE", x.shift(2, -1, 0, 0, 1), -12);
        due("34 NOTHING", x.shift(3, 0, 0, 0, 1), -11);
        due("34 NOTHING", x.shift(0, 0, 3, 0, 1), -11);
        due("34 NOTHING ahead of PLACE", x.shift(3, -1, 4, -1, -1), -11);
        due("34 NONE", x.shift(6, 0, 0, 0, 1), -1);
        due("34 NONE ahead of NOTHING", x.shift(3, 0, -1, 0, 1), -1);
        row("34 refused, nothing changes", x, 0, 1, 2, 3, 4, 4);
        row("34 refused, nothing changes", x, 1, 0, 4, 5);
    }

    private static void row(String what, DoorSticks x, int tape, int... want) {
        for (int i = 0; i < want.length; i++) {
            due(what + " item " + i, x.read(tape, i), want[i]);
        }
        due(what + " end", x.read(tape, want.length), Long.MIN_VALUE);
    }
}
