import java.util.ArrayList;
import java.util.Arrays;
import java.util.HashMap;
import java.util.List;
import java.util.Map;
import java.util.Random;
import java.util.regex.Pattern;

/**
 * Random runs, each answer compared with that of a second, plain model of the document: texts evaluated as they
 * stand, the whole house cloned for what comes, bodies as Java's own overriding, FAULTS by trying completions.
 */
public final class ModelTests {
    private static final int USUAL_RUNS = 200;
    private static int wrong = 0;

    public static void main(String[] args) {
        faults();
        int runs = args.length > 0 ? Integer.parseInt(args[0]) : USUAL_RUNS;
        for (int seed = 0; seed < runs && wrong < 10; seed++) {
            run(seed);
        }
        System.out.println(wrong == 0 ? "ModelTests: all as due" : "ModelTests: " + wrong + " wrong");
        System.exit(wrong == 0 ? 0 : 1);
    }

    // ---- the grammar, by splitting

    static final Pattern SHORT = Pattern.compile("sink \\d\\d?|draught \\d\\d?");
    static final Pattern LONG = Pattern.compile("(swell|draw) \\d\\d? .+", Pattern.DOTALL);
    static final Pattern TEST = Pattern.compile("[kdwspm][<=>]\\d\\d?");

    static boolean isHouse(String text) {
        String[] clauses = text.split(";", -1);
        if (clauses.length > 10) {
            return false;
        }
        for (String c : clauses) {
            if (!SHORT.matcher(c).matches()) {
                if (!LONG.matcher(c).matches() || !isEither(c.split(" ", 3)[2], 0)) {
                    return false;
                }
            }
        }
        return true;
    }

    static List<String> splitTop(String e, char by) {
        List<String> parts = new ArrayList<>();
        int open = 0;
        int from = 0;
        for (int i = 0; i < e.length(); i++) {
            open += e.charAt(i) == '(' ? 1 : e.charAt(i) == ')' ? -1 : 0;
            if (open == 0 && e.charAt(i) == by) {
                parts.add(e.substring(from, i));
                from = i + 1;
            }
        }
        parts.add(e.substring(from));
        return parts;
    }

    static boolean isEither(String e, int within) {
        for (String t : splitTop(e, '|')) {
            for (String f : splitTop(t, '&')) {
                if (!isFactor(f, within)) {
                    return false;
                }
            }
        }
        return true;
    }

    static boolean isFactor(String f, int within) {
        if (f.startsWith("!")) {
            return within < 4 && isFactor(f.substring(1), within + 1);
        }
        if (f.startsWith("(") && f.endsWith(")") && f.length() > 2) {
            return within < 4 && isEither(f.substring(1, f.length() - 1), within + 1);
        }
        return TEST.matcher(f).matches();
    }

    static boolean canBegin(String prefix) {
        for (String whole : new String[] {"swell 1 k=1", "draw 1 k=1", "sink 1", "draught 1"}) {
            for (int i = 0; i <= whole.length(); i++) {
                for (String closing : new String[] {"", ")", "))", ")))", "))))"}) {
                    if (isHouse(prefix + whole.substring(i) + closing)) {
                        return true;
                    }
                }
            }
        }
        return false;
    }

    static int faultOf(String text) {
        if (isHouse(text)) {
            return -1;
        }
        int begins = 0;
        int doesNot = text.length() + 1;
        while (doesNot - begins > 1) {
            int middle = (begins + doesNot) / 2;
            if (canBegin(text.substring(0, middle))) {
                begins = middle;
            } else {
                doesNot = middle;
            }
        }
        return begins;
    }

    static boolean holds(String e, int[] facts) {
        List<String> either = splitTop(e, '|');
        if (either.size() > 1) {
            return either.stream().anyMatch(t -> holds(t, facts));
        }
        List<String> all = splitTop(e, '&');
        if (all.size() > 1) {
            return all.stream().allMatch(f -> holds(f, facts));
        }
        if (e.startsWith("!")) {
            return !holds(e.substring(1), facts);
        }
        if (e.startsWith("(")) {
            return holds(e.substring(1, e.length() - 1), facts);
        }
        int fact = facts["kdwspm".indexOf(e.charAt(0))];
        int n = Integer.parseInt(e.substring(2));
        return e.charAt(1) == '<' ? fact < n : e.charAt(1) == '=' ? fact == n : fact > n;
    }

    // ---- random texts

    static String randomFactor(Random r, int depth) {
        int pick = r.nextInt(10);
        if (pick == 0 && depth < 5) {
            return "!" + randomFactor(r, depth + 1);
        }
        if (pick < 3 && depth < 5) {
            return "(" + randomEither(r, depth + 1) + ")";
        }
        char letter = "kdwspm".charAt(r.nextInt(6));
        int most = letter == 'p' ? 3 : letter == 'd' ? 4 : letter == 's' ? 21 : letter == 'm' ? 12 : 10;
        return "" + letter + "<=>".charAt(r.nextInt(3)) + r.nextInt(r.nextInt(20) == 0 ? 100 : most);
    }

    static String randomEither(Random r, int depth) {
        StringBuilder e = new StringBuilder(randomFactor(r, depth));
        while (r.nextInt(3) == 0) {
            e.append(r.nextBoolean() ? '|' : '&').append(randomFactor(r, depth));
        }
        return e.toString();
    }

    static String randomClause(Random r) {
        int n = r.nextInt(r.nextInt(4) == 0 ? 100 : 10);
        switch (r.nextInt(6)) {
            case 0: return "sink " + n;
            case 1: return "draught " + n;
            case 2: case 3: return "draw " + r.nextInt(6) + " " + randomEither(r, 0);
            default: return "swell " + n + " " + randomEither(r, 0);
        }
    }

    static String randomText(Random r) {
        StringBuilder text = new StringBuilder(r.nextInt(12) == 0 ? "sink 1;sink 2;sink 3;sink 4;sink 5;sink 6;sink 7;"
                : "");
        text.append(randomClause(r));
        while (r.nextInt(3) != 0) {
            text.append(';').append(randomClause(r));
        }
        if (r.nextInt(4) == 0) {
            int at = r.nextInt(text.length());
            String signs = "swelldrawsinkdraught0123456789;()!|&<=>kdwspm \u0000\u007f";
            switch (r.nextInt(3)) {
                case 0: text.setLength(at); break;
                case 1: text.setCharAt(at, signs.charAt(r.nextInt(signs.length()))); break;
                default: text.insert(at, signs.charAt(r.nextInt(signs.length())));
            }
        }
        return text.length() > 100 ? text.substring(0, 100) : text.toString();
    }

    static void faults() {
        Random r = new Random(5);
        for (int i = 0; i < 2000; i++) {
            String text = randomText(r);
            DoorSticks x = new DoorSticks();
            for (char c : text.toCharArray()) {
                x.feed(c);
            }
            int fault = faultOf(text);
            compare("house() of '" + text + "'", x.house(), fault < 0 ? 0 : -10 - fault);
        }
    }

    // ---- the model's state

    static class Door implements Cloneable {
        int i, k, v, sag, pack;
        int[] water = {50, 50};
        boolean[] paint = new boolean[2];
        int[] cut = {4, 4, 4, 4, 4, 4};

        Door copy() {
            try {
                Door d = (Door) super.clone();
                d.water = water.clone();
                d.paint = paint.clone();
                d.cut = cut.clone();
                return d;
            } catch (CloneNotSupportedException e) {
                throw new IllegalStateException(e);
            }
        }

        int[] facts(int month) {
            return new int[] {k, i, (water[0] + water[1]) / 2 / 10, sag, (paint[0] ? 1 : 0) + (paint[1] ? 1 : 0),
                month % 12};
        }

        static List<Integer> ran = new ArrayList<>();

        int swells(int x) { ran.add(10); return x + i; }
        int hangs(int x) { ran.add(11); return swells(x) - v; }
        int tells(int x) { ran.add(12); return hangs(x) * 2; }
    }

    static class Swollen extends Door {
        int hangs(int x) { ran.add(20); return super.hangs(x) ^ 6; }
    }

    static class Bowed extends Door {
        int swells(int x) { ran.add(30); return super.swells(x * 3); }
    }

    static class Sagged extends Door {
        int tells(int x) { ran.add(40); return super.tells(x) + hangs(1); }
    }

    static class Framed extends Swollen {
        int swells(int x) { ran.add(50); return -super.swells(x); }
        int hangs(int x) { ran.add(51); return super.hangs(x + 1); }
    }

    static class Planed extends Bowed {
        int tells(int x) { ran.add(60); return super.tells(x - i); }
    }

    static class Leaned extends Sagged {
        int hangs(int x) { ran.add(70); return super.hangs(x) + super.swells(2); }
        int swells(int x) { ran.add(71); return super.swells(x) ^ v; }
    }

    static Door make(int kind) {
        switch (kind) {
            case 0: return new Door();
            case 1: return new Swollen();
            case 2: return new Bowed();
            case 3: return new Sagged();
            case 4: return new Framed();
            case 5: return new Planed();
            default: return new Leaned();
        }
    }

    static Class<?>[] kinds = {Door.class, Swollen.class, Bowed.class, Sagged.class, Framed.class, Planed.class,
        Leaned.class};

    static final Map<String, List<String[]>> split = new HashMap<>();

    static class World {
        int[] air = new int[12];
        List<Door> doors = new ArrayList<>();
        int lean, month;
        String house;
        List<int[]> book = new ArrayList<>();

        World() {
            Arrays.fill(air, 50);
        }

        World copy() {
            World w = new World();
            w.air = air.clone();
            for (Door d : doors) {
                w.doors.add(d.copy());
            }
            w.lean = lean;
            w.month = month;
            w.house = house;
            w.book.addAll(book);
            return w;
        }

        List<String[]> clauses() {
            return split.computeIfAbsent(house == null ? "" : house, h -> {
                List<String[]> all = new ArrayList<>();
                for (String c : h.split(";")) {
                    all.add(c.split(" "));
                }
                return all;
            });
        }

        int total(String word, Door d) {
            int sum = 0;
            boolean any = false;
            for (String[] parts : clauses()) {
                if (parts[0].equals(word)) {
                    any = true;
                    sum += holds(parts[2], d.facts(month)) ? Integer.parseInt(parts[1]) : 0;
                }
            }
            return any || word.equals("draw") ? sum : 1;
        }

        int last(String word, int without) {
            int n = without;
            for (String[] parts : clauses()) {
                n = parts[0].equals(word) ? Integer.parseInt(parts[1]) : n;
            }
            return n;
        }

        int swell(Door d) {
            int s = total("swell", d) * ((d.water[0] + d.water[1]) / 2) / 20;
            s = d instanceof Swollen ? s + d.v : s;
            s = d instanceof Framed ? s / 2 : s;
            return d instanceof Planed ? Math.max(s - 2, 0) : s;
        }

        int bend(Door d) {
            int apart = Math.abs(d.water[0] - d.water[1]) / 10;
            return d instanceof Bowed ? apart + apart : apart;
        }

        int hang(Door d) {
            int h = d.sag > d.pack ? d.sag - d.pack : 0;
            h = d instanceof Sagged ? h + d.v : h;
            return d instanceof Leaned ? h + lean / 2 : h;
        }

        int gap(Door d, int spot) {
            return gap(d, spot, swell(d), hang(d), lean, bend(d));
        }

        static int gap(Door d, int spot, int s, int h, int l, int b) {
            int[] gaps = {d.cut[0] - l, d.cut[1] + h - l, d.cut[2] - s - h - b, d.cut[3] - s + h - b, d.cut[4] - h,
                d.cut[5] - d.pack};
            return gaps[spot];
        }

        int rubs(Door d) {
            int bits = 0;
            for (int s = 0; s < 6; s++) {
                bits |= gap(d, s) < 0 ? 1 << s : 0;
            }
            return bits;
        }

        int draughts(Door d) {
            int bits = 0;
            for (int s = 0; s < 6; s++) {
                bits |= gap(d, s) > last("draught", 9) ? 1 << s : 0;
            }
            return bits;
        }

        void pass(int a) {
            for (Door d : doors) {
                for (int s = 0; s < 2; s++) {
                    d.water[s] += (a - d.water[s]) / (d.paint[s] ? 8 : 2);
                }
                d.sag = Math.min(20, d.sag + total("draw", d));
            }
            month++;
            if (month % 12 == 0) {
                lean = Math.min(20, lean + last("sink", 0));
            }
        }

        World on(int n) {
            return behind(n).get(n);
        }

        /** How all is behind 0 .. n MONTHS. */
        List<World> behind(int n) {
            List<World> all = new ArrayList<>();
            all.add(copy());
            for (int m = 0; m < n; m++) {
                World next = all.get(m).copy();
                next.pass(next.air[next.month % 12]);
                all.add(next);
            }
            return all;
        }

        int ofSpot(int door, int spot, int n, boolean greatest) {
            return behind(n).stream().mapToInt(w -> w.gap(w.doors.get(door), spot))
                .reduce((a, b) -> greatest ? Math.max(a, b) : Math.min(a, b)).getAsInt();
        }

        int off(int door, int spot) {
            return Math.max(0, -ofSpot(door, spot, 12, false));
        }

        int fits(int door) {
            World w = copy();
            for (int s = 0; s < 6; s++) {
                w.doors.get(door).cut[s] += off(door, s);
            }
            for (World then : w.behind(12)) {
                if (then.draughts(then.doors.get(door)) != 0) {
                    return 0;
                }
            }
            return 1;
        }

        int[] cheapest(int door) {
            int[] best = null;
            for (int set = 0; set < 16; set++) {
                World w = copy();
                Door d = w.doors.get(door);
                int cost = 0;
                if ((set & 2) > 0) {
                    d.pack = Math.min(9, d.pack + 2);
                    cost++;
                }
                if ((set & 4) > 0) {
                    d.sag = 0;
                    cost += 2;
                }
                if ((set & 8) > 0) {
                    Arrays.fill(d.paint, true);
                    cost += 5;
                }
                if ((set & 1) > 0) {
                    World before = w.copy();
                    for (int s = 0; s < 6; s++) {
                        int off = before.off(door, s);
                        d.cut[s] += off;
                        cost += off > 0 ? 3 : 0;
                    }
                }
                boolean rubs = false;
                for (World then : w.behind(12)) {
                    rubs |= then.rubs(then.doors.get(door)) != 0;
                }
                if (!rubs && (best == null || cost < best[1])) {
                    best = new int[] {set, cost};
                }
            }
            return best;
        }

        int why(int door, int spot) {
            Door d = doors.get(door);
            if (gap(d, spot) >= 0) {
                return -3;
            }
            return (gap(d, spot, 0, hang(d), lean, bend(d)) >= 0 ? 1 : 0)
                + (gap(d, spot, swell(d), 0, lean, bend(d)) >= 0 ? 2 : 0)
                + (gap(d, spot, swell(d), hang(d), 0, bend(d)) >= 0 ? 4 : 0)
                + (gap(d, spot, swell(d), hang(d), lean, 0) >= 0 ? 8 : 0);
        }

        int[] changed() {
            int[] pairs = {0, -5};
            for (int a = 0; a < doors.size(); a++) {
                for (int b = a + 1; b < doors.size(); b++) {
                    World w = copy();
                    w.doors.get(a).cut = doors.get(b).cut;
                    w.doors.get(b).cut = doors.get(a).cut;
                    int now = Integer.bitCount(rubs(doors.get(a))) + Integer.bitCount(rubs(doors.get(b)));
                    int then = Integer.bitCount(w.rubs(w.doors.get(a))) + Integer.bitCount(w.rubs(w.doors.get(b)));
                    if (then < now) {
                        pairs[1] = pairs[0] == 0 ? 10 * a + b : pairs[1];
                        pairs[0]++;
                    }
                }
            }
            return pairs;
        }

        int looked(int door, int n) {
            List<World> coming = behind(book.size());
            for (int m = 0; m < book.size(); m++) {
                World w = coming.get(m);
                if (Math.abs(w.gap(w.doors.get(door), book.get(m)[0]) - book.get(m)[1]) > n) {
                    return m;
                }
            }
            return -5;
        }

        long fraction(int door, int side, int part) {
            long above = 0;
            for (int m = 0; m < 12; m++) {
                World w = copy();
                w.pass(air[m]);
                Door d = w.doors.get(door);
                above += side < 0 ? (w.rubs(d) != 0 ? 1 : 0) : d.water[side];
            }
            long a = above;
            long b = 12;
            while (b != 0) {
                long rest = a % b;
                a = b;
                b = rest;
            }
            return (part == 0 ? above : 12) / a;
        }
    }

    // ---- one run

    static void compare(String call, long got, long want) {
        if (got != want) {
            wrong++;
            System.out.println(call + " answered " + got + ", due is " + want);
        }
    }

    static DoorSticks x;
    static World w;
    static World picture;
    static String text;
    static List<String> houses;
    static StringBuilder log;

    static void run(int seed) {
        Random r = new Random(seed);
        x = new DoorSticks();
        w = new World();
        picture = null;
        text = "";
        houses = new ArrayList<>();
        log = new StringBuilder();
        if (r.nextInt(8) == 0) {
            for (int i = 0; i < 12; i++) {
                w.air[i] = r.nextInt(100);
                x.air(i, w.air[i]);
            }
        }
        int before = wrong;
        for (int call = 0; call < 60 && wrong == before; call++) {
            change(r);
            ask(r);
        }
        if (wrong != before) {
            System.out.println("in run " + seed + ": " + log);
        }
    }

    static void change(Random r) {
        int door = r.nextInt(4);
        boolean is = door < w.doors.size();
        int a = r.nextInt(11) - 1;
        int b = r.nextInt(100);
        int pick = r.nextInt(14);
        log.append(pick).append(' ').append(door).append(' ').append(a).append(' ').append(b).append("; ");
        switch (pick) {
            case 0: {
                int kind = r.nextInt(7);
                int want = a < 0 || a > 9 ? -2 : w.doors.size() == 4 ? -4 : w.doors.size();
                if (want >= 0) {
                    Door d = make(kind);
                    d.i = want;
                    d.k = kind;
                    d.v = a;
                    w.doors.add(d);
                }
                compare("door(" + kind + ", " + a + ")", x.door(kind, a), want);
                break;
            }
            case 1: {
                int month = r.nextInt(12);
                compare("air", x.air(month, b), w.air[month]);
                w.air[month] = b;
                break;
            }
            case 2:
                compare("lean", x.lean(a), a < 0 ? -2 : w.lean);
                w.lean = a < 0 ? w.lean : a;
                break;
            case 3: {
                int side = r.nextInt(2);
                compare("water", x.water(door, side, b), is ? w.doors.get(door).water[side] : -1);
                if (is) {
                    w.doors.get(door).water[side] = b;
                }
                break;
            }
            case 4: {
                int s = r.nextInt(21);
                compare("sag", x.sag(door, s), is ? w.doors.get(door).sag : -1);
                if (is) {
                    w.doors.get(door).sag = s;
                }
                break;
            }
            case 5: case 6: {
                String more = randomText(r);
                text = more;
                log.append('\'').append(more).append("'; ");
                for (char c : more.toCharArray()) {
                    x.feed(c);
                }
                compare("count(3)", x.count(3), houses.size() == 6 ? x.count(3) : more.length());
                int fault = faultOf(more);
                int want = houses.size() == 6 ? -4 : fault < 0 ? houses.size() : -10 - fault;
                compare("house() of '" + more + "'", x.house(), want);
                if (want >= 0) {
                    houses.add(more);
                    w.house = more;
                }
                break;
            }
            case 7: case 8:
                w.pass(w.air[w.month % 12]);
                compare("month", x.month(), w.month);
                break;
            case 9: case 10:
                mend(r, door, is);
                break;
            case 11: {
                int spot = r.nextInt(8) == 0 ? -1 : r.nextInt(6);
                int gap = r.nextInt(3) == 0 || w.doors.isEmpty() ? r.nextInt(199) - 99 : rightRow(r, Math.max(0, spot));
                int want = spot == -1 ? 0 : w.book.size() == 12 ? -4 : w.book.size() + 1;
                compare("book", x.book(spot, gap), want);
                if (spot == -1) {
                    w.book.clear();
                } else if (want > 0) {
                    w.book.add(new int[] {spot, gap});
                }
                break;
            }
            case 12:
                compare("image", x.image(), w.doors.size());
                picture = w.copy();
                break;
            default:
                if (r.nextInt(3) == 0) {
                    compare("undo", x.undo(), picture == null ? -3 : picture.doors.size());
                    w = picture == null ? w : picture.copy();
                }
        }
    }

    static int rightRow(Random r, int spot) {
        World then = w.on(w.book.size());
        int gap = then.gap(then.doors.get(r.nextInt(then.doors.size())), spot) + r.nextInt(3) - 1;
        return Math.max(-99, Math.min(99, gap));
    }

    static void mend(Random r, int door, boolean is) {
        int kind = r.nextInt(5);
        int spot = r.nextInt(6);
        int side = r.nextInt(2);
        int n = r.nextInt(10);
        Door d = is ? w.doors.get(door) : new Door();
        int[] was = {d.cut[spot], d.pack, d.sag, d.paint[side] ? 1 : 0, d.cut[spot]};
        int where = kind == 3 ? side : kind == 0 || kind == 4 ? spot : r.nextInt();
        compare("mend", x.mend(door, kind, where, kind == 2 || kind == 3 ? r.nextInt() : n), is ? was[kind] : -1);
        switch (kind) {
            case 0: d.cut[spot] = Math.min(99, d.cut[spot] + n); break;
            case 1: d.pack = Math.min(9, d.pack + n); break;
            case 2: d.sag = 0; break;
            case 3: d.paint[side] = true; break;
            default: d.cut[spot] = Math.max(0, d.cut[spot] - n);
        }
    }

    static void ask(Random r) {
        for (int m = 0; m < 12; m++) {
            compare("told air", x.told(10 + m), w.air[m]);
        }
        compare("told(0)", x.told(0), w.last("sink", 0));
        compare("told(1)", x.told(1), w.last("draught", 9));
        compare("told(2)", x.told(2), w.month);
        compare("told(3)", x.told(3), w.lean);
        compare("count(0)", x.count(0), w.doors.size());
        compare("count(1)", x.count(1), houses.size());
        compare("count(2)", x.count(2), w.book.size());
        int[] changed = w.changed();
        compare("changed(0)", x.changed(0), changed[0]);
        compare("changed(1)", x.changed(1), changed[1]);
        for (int i = 0; i < w.doors.size(); i++) {
            askNow(i, w.doors.get(i));
        }
        if (!w.doors.isEmpty()) {
            int i = r.nextInt(w.doors.size());
            if (r.nextInt(4) == 0) {
                askComing(r, i);
            }
            askActs(r, i);
        }
    }

    static void askNow(int i, Door d) {
        int[] want = {d.k, d.v, d.water[0], d.water[1], (d.paint[0] ? 1 : 0) + (d.paint[1] ? 2 : 0), d.sag, d.pack,
            w.swell(d), w.bend(d), w.hang(d), w.rubs(d), w.draughts(d)};
        for (int what = 0; what < 12; what++) {
            compare("of(" + i + ", " + what + ")", x.of(i, what), want[what]);
        }
        for (int s = 0; s < 6; s++) {
            compare("of cut", x.of(i, 20 + s), d.cut[s]);
            compare("of gap", x.of(i, 30 + s), w.gap(d, s));
            compare("why(" + i + ", " + s + ")", x.why(i, s), w.why(i, s));
        }
        for (int k = 0; k < 7; k++) {
            compare("taken", x.taken(i, k), kinds[k].isInstance(d) ? d.k : -12);
        }
    }

    static void askComing(Random r, int i) {
        int n = r.nextInt(5) == 0 ? r.nextInt(61) : r.nextInt(14);
        int spot = r.nextInt(6);
        World then = w.on(n);
        Door d = then.doors.get(i);
        for (int s = 0; s < 6; s++) {
            compare("run gap", x.run(i, n, s), then.gap(d, s));
        }
        compare("run 6", x.run(i, n, 6), d.water[0]);
        compare("run 7", x.run(i, n, 7), d.water[1]);
        compare("run 8", x.run(i, n, 8), d.sag);
        compare("worst 0", x.worst(i, spot, n, 0), w.ofSpot(i, spot, n, false));
        compare("worst 1", x.worst(i, spot, n, 1), w.ofSpot(i, spot, n, true));
        int first = -5;
        int at = -5;
        List<World> coming = w.behind(60);
        for (int m = 0; m <= 60 && first < 0; m++) {
            World later = coming.get(m);
            int rubs = later.rubs(later.doors.get(i));
            if (rubs != 0) {
                first = m;
                at = Integer.numberOfTrailingZeros(rubs);
            }
        }
        compare("first 0", x.first(i, 0), first);
        compare("first 1", x.first(i, 1), at);
        compare("off", x.off(i, spot), w.off(i, spot));
        compare("fits", x.off(i, -1), w.fits(i));
        int[] cheapest = w.cheapest(i);
        compare("cheapest 0", x.cheapest(i, 0), cheapest[0]);
        compare("cheapest 1", x.cheapest(i, 1), cheapest[1]);
        for (int part = 0; part < 2; part++) {
            compare("odds", x.odds(i, part), w.fraction(i, -1, part));
            compare("mean 0", x.mean(i, 0, part), w.fraction(i, 0, part));
            compare("mean 1", x.mean(i, 1, part), w.fraction(i, 1, part));
        }
        compare("looked", x.looked(i, n % 10), w.looked(i, n % 10));
        compare("looked 0", x.looked(i, 0), w.looked(i, 0));
        askJudge(r, i);
    }

    static void askJudge(Random r, int i) {
        int n = r.nextInt(9);
        int from = r.nextInt(3);
        int off = r.nextInt(8);
        x.tape(1, 1, n);
        int want = -5;
        for (int s = 0; s < 6; s++) {
            int gap = w.gap(w.doors.get(i), s);
            x.item(1, from + s, gap + (s == off ? 1 : 0));
            if (want == -5 && (from + s >= n || s == off)) {
                want = from + s >= n ? 100 + s : s;
            }
        }
        compare("judge", x.judge(1, from, i), want);
    }

    static void askActs(Random r, int i) {
        int act = r.nextInt(3);
        int arg = r.nextInt(3) == 0 ? r.nextInt() : r.nextInt(40) - 20;
        Door d = w.doors.get(i);
        Door.ran.clear();
        int want = act == 0 ? d.swells(arg) : act == 1 ? d.hangs(arg) : d.tells(arg);
        compare("act", x.act(i, act, arg), want);
        compare("count(4)", x.count(4), Door.ran.size());
        for (int t = 0; t < 22; t++) {
            compare("trace", x.trace(t), t < Door.ran.size() && t < 20 ? Door.ran.get(t) : -1);
        }
    }
}
