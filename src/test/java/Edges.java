import java.io.IOException;
import java.nio.charset.StandardCharsets;
import java.nio.file.Files;
import java.nio.file.Path;

/**
 * What the tests of boundaries share. Each test begins with the sentence of the document that it is for, and what it
 * finds wrong is told under that sentence.
 */
class Edges {
    static final int MIN = Integer.MIN_VALUE, MAX = Integer.MAX_VALUE;
    static final long NO = Long.MIN_VALUE;
    private static final String DOC = document();
    private static String sentence = "";
    private static int sentences;
    private static int dues;
    private static int wrong;

    private static String document() {
        try {
            return flat(Files.readString(Path.of("../shared/DOC.md"), StandardCharsets.UTF_8)) + " ## ";
        } catch (IOException e) {
            System.out.println("no ../shared/DOC.md: sentences are not compared with it");
            return "";
        }
    }

    private static String flat(String text) {
        return text.replaceAll("\\s+", " ");
    }

    /** The sentence that all that follows is for; it has to stand under the document's head so. */
    static void sentence(String head, String words) {
        closeSentence();
        sentence = head + ", '" + words + "'";
        sentences++;
        // Without the document the answers are tested all the same.
        if (!DOC.isEmpty() && !part(head).contains(flat(words))) {
            tell("the document has no such words");
        }
    }

    private static String part(String head) {
        int from = DOC.indexOf("## " + head);
        return from < 0 ? "" : DOC.substring(from, DOC.indexOf(" ## ", from));
    }

    private static void closeSentence() {
        if (sentences > 0 && dues == 0) {
            tell("nothing was tested");
        }
        dues = 0;
    }

    static void tell(String what) {
        wrong++;
        System.out.println(sentence + ": " + what);
    }

    static void due(String what, long got, long want) {
        dues++;
        if (got != want) {
            tell(what + " answered " + got + ", due is " + want);
        }
    }

    static void due(String what, String got, String want) {
        dues++;
        if (!got.equals(want)) {
            tell(what + " answered\n  " + got + "\ndue is\n  " + want);
        }
    }

    static void end(String name) {
        closeSentence();
        System.out.println(name + ": " + sentences + " sentences, " + (wrong == 0 ? "all as due" : wrong + " wrong"));
        System.exit(wrong == 0 ? 0 : 1);
    }

    // ---- objects to test with

    static DoorSticks withDoors(int... kindsAndVs) {
        DoorSticks x = new DoorSticks();
        for (int i = 0; i + 1 < kindsAndVs.length; i += 2) {
            x.door(kindsAndVs[i], kindsAndVs[i + 1]);
        }
        return x;
    }

    static void feed(DoorSticks x, String text) {
        for (int i = 0; i < text.length(); i++) {
            x.feed(text.charAt(i));
        }
    }

    static int house(DoorSticks x, String text) {
        feed(x, text);
        return x.house();
    }

    /** Doors of KINDS and v, in a HOUSE. */
    static DoorSticks inHouse(String text, int... kindsAndVs) {
        DoorSticks x = withDoors(kindsAndVs);
        house(x, text);
        return x;
    }

    static void allAirs(DoorSticks x, int n) {
        for (int m = 0; m < 12; m++) {
            x.air(m, n);
        }
    }

    static void waters(DoorSticks x, int door, int inside, int outside) {
        x.water(door, 0, inside);
        x.water(door, 1, outside);
    }

    static void months(DoorSticks x, int n) {
        for (int i = 0; i < n; i++) {
            x.month();
        }
    }

    /** PLANE by any n, 9 at a time. */
    static void plane(DoorSticks x, int door, int spot, int n) {
        for (int left = n; left > 0; left -= 9) {
            x.mend(door, 0, spot, Math.min(9, left));
        }
    }

    static void pack(DoorSticks x, int door, int n) {
        x.mend(door, 1, 0, n);
    }

    static void paint(DoorSticks x, int door, int side) {
        x.mend(door, 3, side, 0);
    }

    static void strip(DoorSticks x, int door, int spot, int n) {
        x.mend(door, 4, spot, n);
    }

    /** An object that has something of everything; with its making and shown() it stays below 512 calls. */
    static DoorSticks rich() {
        DoorSticks x = inHouse("swell 2 w>3|p=1;draw 1 m<6;sink 2;draught 7", 1, 3, 6, 2, 5, 9);
        for (int m = 0; m < 12; m++) {
            x.air(m, 7 * m + 3);
        }
        x.lean(3);
        x.water(0, 0, 80);
        x.water(1, 1, 20);
        x.sag(1, 6);
        x.mend(0, 3, 1, 0);
        x.mend(1, 1, 0, 2);
        x.mend(2, 0, 4, 5);
        x.month();
        x.book(4, 3);
        x.book(2, -9);
        x.image();
        x.air(5, 44);
        x.book(3, 3);
        x.sag(2, 4);
        x.month();
        x.tape(0, 1, 7);
        x.tape(1, 1, 3);
        x.tape(2, 0, 4);
        x.tape(3, 4, 2);
        for (int i = 0; i < 7; i++) {
            x.item(0, i, 300 * i - 7);
        }
        x.item(1, 2, 12);
        x.item(2, 3, -3);
        x.item(3, 1, 5);
        feed(x, "sink");
        x.act(1, 2, 5);
        return x;
    }

    /** All that can be seen of an object, THE IMAGE last, which it is undone to. */
    static String shown(DoorSticks x) {
        StringBuilder all = new StringBuilder();
        for (int i = 0; i < 14; i++) {
            all.append(x.trace(i)).append(' ');
        }
        for (int t = 0; t < 6; t++) {
            all.append("| ");
            for (int i = 0; i < 8; i++) {
                all.append(x.read(t, i)).append(' ');
            }
            all.append(x.judge(t, 0, 0));
        }
        for (int what : new int[] {1, 3, 4}) {
            all.append(x.count(what)).append(' ');
        }
        all.append(home(x)).append("| THE IMAGE ").append(x.undo()).append(' ').append(home(x));
        return all.toString();
    }

    /** What THE IMAGE takes. */
    static String home(DoorSticks x) {
        StringBuilder all = new StringBuilder("| ");
        for (int what = 0; what < 22; what++) {
            all.append(what < 4 || what > 9 ? x.told(what) : 0).append(' ');
        }
        all.append(x.count(0)).append(' ').append(x.count(2)).append(' ');
        for (int d = 0; d < x.count(0); d++) {
            all.append("| ");
            for (int what = 0; what < 36; what++) {
                all.append(what < 12 || what > 19 && what < 26 || what > 29 ? x.of(d, what) : 0).append(' ');
            }
            all.append(x.looked(d, 0)).append(' ').append(x.looked(d, 9)).append(' ');
            all.append(x.run(d, 9, 8)).append(' ');
        }
        return all.toString();
    }

    /** A call on an object. */
    interface Call {
        long on(DoorSticks x);
    }

    /** On an object that has something of everything the call changes nothing, whatever it answers. */
    static void asked(String what, Call call) {
        DoorSticks x = rich();
        call.on(x);
        due("all behind " + what, shown(x), shown(rich()));
    }

    /** The call answers so, and on an object that has something of everything it changes nothing. */
    static void refused(String what, Call call, long want) {
        DoorSticks x = rich();
        due(what, call.on(x), want);
        due("all behind " + what, shown(x), shown(rich()));
    }
}
