import java.util.function.Function;

/** Every promise of the document in turn: ordinary inputs, its edges, and wrong inputs. */
public final class PromisesTest {
    private static final int MIN = Integer.MIN_VALUE;
    private static final int MAX = Integer.MAX_VALUE;
    private static int wrong = 0;

    public static void main(String[] args) {
        newObject();
        statusOfTheLatestCall();
        outByBytes();
        corners();
        patches();
        patchesThatMeet();
        on();
        own();
        told();
        sight();
        sightPastOthers();
        length();
        share();
        crossed();
        parts();
        table();
        light();
        bounce();
        pull();
        enough();
        want();
        price();
        least();
        leastOfSeveral();
        power();
        System.out.println(wrong == 0 ? "all promises hold" : wrong + " answers are not as due");
        if (wrong != 0) {
            System.exit(1);
        }
    }

    // ---- helpers

    private static void due(int promise, String call, long got, long want) {
        if (got != want) {
            wrong++;
            System.out.println("promise " + promise + ": " + call + " answered " + got + ", due is " + want);
        }
    }

    private static void done(int promise, String call, boolean got, LightRoom x) {
        due(promise, call, got ? 1 : 0, 1);
        due(promise, call + ", status", x.status(), 0);
    }

    private static void fine(int promise, String call, LightRoom x, long got, long want) {
        due(promise, call, got, want);
        due(promise, call + ", status", x.status(), 0);
    }

    /** NONE or false, and OUT stays; what else may not change is looked at by the twins of Run. */
    private static void refused(int promise, String call, LightRoom x, int status, Function<LightRoom, Object> made) {
        String before = text(x);
        Object got = made.apply(x);
        int seen = x.status();
        boolean none = got instanceof Boolean ? !((Boolean) got) : ((Number) got).longValue() == -1;
        due(promise, call + ", none", none ? 1 : 0, 1);
        due(promise, call + ", status", seen, status);
        if (!text(x).equals(before)) {
            wrong++;
            System.out.println("promise " + promise + ": " + call + " changed OUT");
        }
    }

    private static void tells(int promise, String call, LightRoom x, int size, String want) {
        due(promise, call + ", status", x.status(), 0);
        due(promise, call + ", size", size, want.length());
        if (!text(x).equals(want)) {
            wrong++;
            System.out.println("promise " + promise + ": " + call + " told " + text(x) + ", due is " + want);
        }
    }

    private static String text(LightRoom x) {
        return Run.text(x);
    }

    private static LightRoom withCorners(int... places) {
        LightRoom x = new LightRoom();
        for (int i = 0; i + 1 < places.length; i += 2) {
            x.corner(places[i], places[i + 1]);
        }
        return x;
    }

    /** A square of side 10, all patches with their seen side in: PLAIN, LAMP, PLAIN, GAP. */
    private static LightRoom square() {
        LightRoom x = withCorners(0, 0, 10, 0, 10, 10, 0, 10);
        x.patch(0, 1, 0);
        x.patch(1, 2, 1);
        x.patch(2, 3, 0);
        x.patch(3, 0, 2);
        return x;
    }

    /** Patches that stand side by side, one of each kind that is asked for. */
    private static LightRoom ofKinds(int... kinds) {
        LightRoom x = new LightRoom();
        for (int p = 0; p < kinds.length; p++) {
            x.corner(p, 0);
            x.corner(p, 1);
            due(5, "patch " + p, x.patch(2 * p, 2 * p + 1, kinds[p]), p);
        }
        return x;
    }

    /** A PLAIN and a LAMP that give each other half of all that comes. */
    private static LightRoom facing(int own) {
        LightRoom x = ofKinds(0, 1);
        x.on(0, 1, 2);
        x.on(1, 1, 2);
        x.own(1, own);
        x.table(0, 1, 100);
        x.table(1, 0, 100);
        return x;
    }

    // ---- the promises

    private static void newObject() {
        LightRoom x = new LightRoom();
        due(1, "status", x.status(), 0);
        due(1, "out", x.out(0), -1);
        due(1, "told of no patch", x.told(0, 0), -1);
        due(1, "its status", x.status(), 1);
        due(1, "patch without corners", x.patch(0, 1, 0), -1);
        due(1, "its status", x.status(), 1);
        due(1, "NONE", LightRoom.NONE, -1);
        due(1, "corner", x.corner(5, 5), 0);
        LightRoom y = new LightRoom();
        due(1, "another object's corner", y.corner(5, 5), 0);
    }

    private static void statusOfTheLatestCall() {
        LightRoom x = new LightRoom();
        x.corner(2000, 0);
        due(2, "status", x.status(), 2);
        due(2, "status again", x.status(), 2);
        x.out(0);
        x.out(-1);
        due(2, "status after out", x.status(), 2);
        x.corner(1, 1);
        due(2, "status", x.status(), 0);
        x.corner(1, 1);
        due(2, "status", x.status(), 4);
        x.least();
        due(2, "status", x.status(), 0);
    }

    private static void outByBytes() {
        LightRoom x = facing(30);
        due(3, "light", x.light(0), 4);
        due(3, "byte 0", x.out(0), '2');
        due(3, "byte 1", x.out(1), '0');
        due(3, "byte 2", x.out(2), '/');
        due(3, "byte 3", x.out(3), '1');
        due(3, "byte 4", x.out(4), -1);
        due(3, "byte -1", x.out(-1), -1);
        due(3, "least byte", x.out(MIN), -1);
        due(3, "greatest byte", x.out(MAX), -1);
        x.light(7);
        x.own(1, 60);
        x.sight(0, 1);
        x.enough(0);
        due(3, "out stays", text(x).equals("20/1") ? 1 : 0, 1);
        x.bounce(0, 0);
        due(3, "a shorter out", text(x).equals("0/1") ? 1 : 0, 1);
        due(3, "byte 3 of a shorter out", x.out(3), -1);
    }

    private static void corners() {
        LightRoom x = new LightRoom();
        fine(4, "least corner", x, x.corner(-1000, -1000), 0);
        fine(4, "greatest corner", x, x.corner(1000, 1000), 1);
        refused(4, "x too great", x, 2, r -> r.corner(1001, 0));
        refused(4, "x too small", x, 2, r -> r.corner(-1001, 0));
        refused(4, "y too great", x, 2, r -> r.corner(0, 1001));
        refused(4, "y too small", x, 2, r -> r.corner(0, -1001));
        refused(4, "far out", x, 2, r -> r.corner(MIN, MAX));
        refused(4, "there already", x, 4, r -> r.corner(1000, 1000));
        fine(4, "x alike alone", x, x.corner(1000, 0), 2);
        fine(4, "y alike alone", x, x.corner(0, 1000), 3);
        for (int i = 4; i < 24; i++) {
            fine(4, "corner " + i, x, x.corner(i, 7), i);
        }
        refused(4, "the 25th", x, 3, r -> r.corner(500, 500));
        refused(4, "the 25th, there already", x, 3, r -> r.corner(1000, 1000));
        refused(4, "the 25th, too great", x, 2, r -> r.corner(1001, 500));
        fine(4, "a patch of the 24th", x, x.patch(22, 23, 0), 0);
    }

    private static void patches() {
        LightRoom x = withCorners(0, 0, 0, 1, 1, 0, 1, 1, 2, 0, 2, 1, 3, 0, 3, 1, 4, 0, 4, 1, 5, 0, 5, 1);
        fine(5, "patch", x, x.patch(0, 1, 1), 0);
        refused(5, "like corners", x, 1, r -> r.patch(2, 2, 0));
        refused(5, "like corners and no kind", x, 1, r -> r.patch(2, 2, 9));
        refused(5, "no first corner", x, 1, r -> r.patch(-1, 2, 0));
        refused(5, "no second corner", x, 1, r -> r.patch(2, 12, 0));
        refused(5, "no corners at all", x, 1, r -> r.patch(MIN, MAX, 0));
        refused(5, "no kind", x, 2, r -> r.patch(2, 3, 3));
        refused(5, "no kind", x, 2, r -> r.patch(2, 3, -1));
        refused(5, "no kind, and meets", x, 2, r -> r.patch(0, 1, MAX));
        fine(5, "second lamp", x, x.patch(3, 2, 1), 1);
        fine(5, "third lamp", x, x.patch(4, 5, 1), 2);
        refused(5, "fourth lamp", x, 5, r -> r.patch(6, 7, 1));
        refused(5, "fourth lamp, and meets", x, 5, r -> r.patch(0, 1, 1));
        fine(5, "a plain one", x, x.patch(6, 7, 0), 3);
        fine(5, "a gap", x, x.patch(8, 9, 2), 4);
        fine(5, "a plain one", x, x.patch(10, 11, 0), 5);
        fine(5, "between two", x, x.patch(1, 3, 0), 6);
        fine(5, "the 8th", x, x.patch(3, 5, 0), 7);
        refused(5, "the 9th", x, 3, r -> r.patch(5, 7, 0));
        refused(5, "the 9th, a 4th lamp that meets", x, 3, r -> r.patch(0, 1, 1));
        refused(5, "the 9th, no kind", x, 2, r -> r.patch(5, 7, 3));
        due(5, "kind", x.told(1, 0), 1);
        due(5, "n of on", x.told(7, 3), 0);
        due(5, "d of on", x.told(7, 4), 1);
        due(5, "own", x.told(7, 5), 0);
    }

    private static void patchesThatMeet() {
        // 0 to 1 is the patch; the others lie about it.
        LightRoom x = withCorners(0, 0, 10, 0, 5, 0, 5, 5, 5, -5, 20, 0, -5, 0, 10, 7, 3, 3, 6, 6, 10, 10);
        fine(5, "patch", x, x.patch(0, 1, 0), 0);
        refused(5, "the same", x, 7, r -> r.patch(0, 1, 0));
        refused(5, "the same, turned", x, 7, r -> r.patch(1, 0, 0));
        refused(5, "an end on it", x, 7, r -> r.patch(2, 3, 0));
        refused(5, "across it", x, 7, r -> r.patch(3, 4, 0));
        refused(5, "a part of it", x, 7, r -> r.patch(0, 2, 0));
        refused(5, "over it and on", x, 7, r -> r.patch(0, 5, 0));
        refused(5, "over it on both sides", x, 7, r -> r.patch(5, 6, 0));
        refused(5, "from inside it and on", x, 7, r -> r.patch(2, 5, 0));
        fine(5, "on along the line", x, x.patch(1, 5, 0), 1);
        fine(5, "before it along the line", x, x.patch(6, 0, 0), 2);
        fine(5, "from an end away", x, x.patch(1, 7, 0), 3);
        fine(5, "through a corner that is no patch's", x, x.patch(0, 10, 0), 4);
        refused(5, "from a corner on that one", x, 7, r -> r.patch(8, 3, 0));
        refused(5, "between corners on that one", x, 7, r -> r.patch(8, 9, 0));
        refused(5, "along the line of that one", x, 7, r -> r.patch(3, 10, 0));
        fine(5, "an unlike line that ends at an end", x, x.patch(4, 5, 0), 5);
    }

    private static void on() {
        LightRoom x = square();
        done(6, "on", x.on(0, 1, 2), x);
        due(6, "n", x.told(0, 3), 1);
        due(6, "d", x.told(0, 4), 2);
        done(6, "not made less", x.on(0, 50, 100), x);
        due(6, "n", x.told(0, 3), 50);
        due(6, "d", x.told(0, 4), 100);
        done(6, "greatest", x.on(1, 99, 100), x);
        done(6, "least", x.on(1, 0, 1), x);
        done(6, "of a gap", x.on(3, 0, 7), x);
        due(6, "d of a gap", x.told(3, 4), 7);
        refused(6, "no patch", x, 1, r -> r.on(4, 0, 0));
        refused(6, "no patch", x, 1, r -> r.on(-1, 0, 1));
        refused(6, "n is d", x, 2, r -> r.on(0, 2, 2));
        refused(6, "n above d", x, 2, r -> r.on(0, MAX, 2));
        refused(6, "n below 0", x, 2, r -> r.on(0, -1, 2));
        refused(6, "d of 0", x, 2, r -> r.on(0, 0, 0));
        refused(6, "d of 101", x, 2, r -> r.on(0, 0, 101));
        refused(6, "least d", x, 2, r -> r.on(0, 0, MIN));
        refused(6, "of a gap, n not 0", x, 5, r -> r.on(3, 1, 2));
        refused(6, "of a gap, n is d", x, 2, r -> r.on(3, 2, 2));
    }

    private static void own() {
        LightRoom x = square();
        done(7, "of a lamp", x.own(1, 10000), x);
        due(7, "own", x.told(1, 5), 10000);
        done(7, "of a lamp, none", x.own(1, 0), x);
        due(7, "own", x.told(1, 5), 0);
        done(7, "of a gap", x.own(3, 9), x);
        due(7, "own", x.told(3, 5), 9);
        done(7, "of a plain one, none", x.own(0, 0), x);
        refused(7, "of a plain one", x, 5, r -> r.own(0, 1));
        refused(7, "of a plain one, too great", x, 2, r -> r.own(0, 10001));
        refused(7, "too great", x, 2, r -> r.own(1, 10001));
        refused(7, "below 0", x, 2, r -> r.own(3, -1));
        refused(7, "no patch", x, 1, r -> r.own(4, -1));
        refused(7, "no patch", x, 1, r -> r.own(MIN, 0));
    }

    private static void told() {
        LightRoom x = square();
        x.on(1, 3, 4);
        x.own(1, 55);
        x.want(1, 66);
        x.price(1, 77, 88);
        int[] due = {1, 1, 2, 3, 4, 55, 66, 77, 88};
        for (int what = 0; what < 9; what++) {
            fine(8, "told 1 " + what, x, x.told(1, what), due[what]);
        }
        int[] atFirst = {2, 3, 0, 0, 1, 0, 0, 1, 10000};
        for (int what = 0; what < 9; what++) {
            fine(8, "told 3 " + what, x, x.told(3, what), atFirst[what]);
        }
        refused(8, "what 9", x, 2, r -> r.told(1, 9));
        refused(8, "what -1", x, 2, r -> r.told(1, -1));
        refused(8, "no patch", x, 1, r -> r.told(4, 0));
        refused(8, "no patch, what 9", x, 1, r -> r.told(-1, 9));
    }

    private static void sight() {
        LightRoom x = square();
        for (int a = 0; a < 4; a++) {
            for (int b = 0; b < 4; b++) {
                if (a != b) {
                    fine(9, "square " + a + " " + b, x, x.sight(a, b), 2);
                }
            }
        }
        refused(9, "like ones", x, 1, r -> r.sight(2, 2));
        refused(9, "no patch", x, 1, r -> r.sight(0, 4));
        refused(9, "no patch", x, 1, r -> r.sight(-1, 0));
        // Backs turned, backs half turned, and all on one line.
        LightRoom y = withCorners(0, 0, 10, 0, 0, 10, 10, 10, -3, -5, -3, 5, 20, 0, 30, 0);
        y.patch(0, 1, 0);
        y.patch(2, 3, 0);
        y.patch(5, 4, 0);
        y.patch(7, 6, 0);
        fine(9, "away", y, y.sight(0, 1), 0);
        fine(9, "away, turned", y, y.sight(1, 0), 0);
        fine(9, "on the line", y, y.sight(0, 3), 0);
        fine(9, "partly behind", y, y.sight(0, 2), 1);
        fine(9, "partly behind, turned", y, y.sight(2, 0), 1);
    }

    private static void sightPastOthers() {
        // Floor and ceiling; then a short piece at, on and inside the edge between them.
        int[] room = {0, 0, 10, 0, 10, 10, 0, 10, 0, 4, 0, 6, -2, 5, 1, 5, 20, 5, -1, 4, 11, 4, 5, 5, 6, 5};
        int[][] apart = {{4, 5, 2}, {6, 4, 2}, {6, 7, 1}, {4, 7, 1}, {9, 10, 1}, {11, 12, 1}, {10, 8, 2}, {3, 4, 2}, {3, 0, 2}, {0, 2, 1}};
        for (int[] one : apart) {
            LightRoom x = withCorners(room);
            x.patch(0, 1, 0);
            x.patch(2, 3, 0);
            due(9, "other", x.patch(one[0], one[1], 2), 2);
            fine(9, "past " + one[0] + " to " + one[1], x, x.sight(0, 1), one[2]);
            fine(9, "turned, past " + one[0] + " to " + one[1], x, x.sight(1, 0), one[2]);
        }
        // Neighbours at a corner: the third edge of the triangle is free, what cuts it is not.
        LightRoom y = withCorners(0, 0, 10, 0, 10, 10, 8, 1, 9, 2, 4, 9);
        y.patch(0, 1, 0);
        y.patch(1, 2, 0);
        y.patch(0, 2, 0);
        fine(9, "a triangle", y, y.sight(0, 1), 2);
        y.patch(5, 2, 0);
        fine(9, "beside a triangle", y, y.sight(0, 1), 2);
        y.patch(3, 4, 0);
        fine(9, "in a triangle", y, y.sight(0, 1), 1);
        // The second begins on the line of the first, beyond its end.
        LightRoom z = withCorners(0, 0, 4, 0, 8, 0, 6, 6, 6, 0, 6, 1, 7, 0);
        z.patch(0, 1, 0);
        z.patch(2, 3, 0);
        fine(9, "a corner on the line", z, z.sight(0, 1), 2);
        z.patch(4, 6, 0);
        fine(9, "on the edge between", z, z.sight(0, 1), 2);
        z.patch(4, 5, 0);
        fine(9, "from the edge in", z, z.sight(0, 1), 1);
    }

    private static void length() {
        LightRoom x = withCorners(-1000, -1000, 1000, 1000, 999, -1000, 1000, -999, 0, 500, 3, 504);
        x.patch(0, 1, 0);
        x.patch(2, 3, 0);
        x.patch(4, 5, 0);
        fine(10, "longest, down", x, x.length(0, 20, false), 2965820800L);
        fine(10, "longest, up", x, x.length(0, 20, true), 2965820801L);
        fine(10, "root of 2, down", x, x.length(1, 0, false), 1);
        fine(10, "root of 2, up", x, x.length(1, 0, true), 2);
        fine(10, "root of 2 by 2^20, down", x, x.length(1, 20, false), 1482910);
        fine(10, "root of 2 by 2^20, up", x, x.length(1, 20, true), 1482911);
        fine(10, "just so, down", x, x.length(2, 0, false), 5);
        fine(10, "just so, up", x, x.length(2, 0, true), 5);
        fine(10, "just so by 2^20", x, x.length(2, 20, true), 5242880);
        refused(10, "k of 21", x, 2, r -> r.length(0, 21, true));
        refused(10, "k of -1", x, 2, r -> r.length(0, -1, true));
        refused(10, "no patch", x, 1, r -> r.length(3, 0, false));
        refused(10, "no patch, k of 21", x, 1, r -> r.length(-1, 21, false));
    }

    private static void share() {
        LightRoom x = square();
        fine(11, "low by 1", x, x.share(0, 2, 0, false), 0);
        fine(11, "high by 1", x, x.share(0, 2, 0, true), 1);
        fine(11, "low by 2^5", x, x.share(0, 2, 5, false), 13);
        fine(11, "high by 2^5", x, x.share(0, 2, 5, true), 14);
        fine(11, "low by 2^20", x, x.share(0, 2, 20, false), 434334);
        fine(11, "high by 2^20", x, x.share(0, 2, 20, true), 434335);
        refused(11, "k of 21", x, 2, r -> r.share(0, 2, 21, true));
        refused(11, "k of -1", x, 2, r -> r.share(0, 2, -1, false));
        refused(11, "like ones", x, 1, r -> r.share(1, 1, 21, false));
        refused(11, "no patch", x, 1, r -> r.share(0, 4, 0, false));
        x.patch(0, 2, 0);
        refused(11, "cut off", x, 6, r -> r.share(0, 2, 0, false));
        refused(11, "not seen", x, 6, r -> r.share(4, 0, 20, true));
        refused(11, "cut off, k of 21", x, 2, r -> r.share(0, 2, 21, false));
        LightRoom y = withCorners(0, 0, 4, 0, 4, 3);
        y.patch(0, 1, 0);
        y.patch(1, 2, 0);
        fine(11, "a quarter, low", y, y.share(0, 1, 20, false), 262144);
        fine(11, "a quarter, high", y, y.share(0, 1, 20, true), 262144);
        fine(11, "a third, low", y, y.share(1, 0, 3, false), 2);
        fine(11, "a third, high", y, y.share(1, 0, 3, true), 3);
        LightRoom z = withCorners(0, 0, 1, 0, 1, 999, 0, 999);
        z.patch(0, 1, 0);
        z.patch(2, 3, 0);
        fine(11, "below 0 is 0", z, z.share(0, 1, 10, false), 0);
        fine(11, "rounded up", z, z.share(0, 1, 10, true), 1);
        fine(11, "far, low", z, z.share(0, 1, 20, false), 524);
        fine(11, "far, high", z, z.share(0, 1, 20, true), 525);
    }

    private static void crossed() {
        int[][] pairs = {
            {0, 0, 10, 0, 10, 10, 0, 10, 1}, {0, 0, 10, 0, 0, 10, 10, 10, -1},
            {-1, 0, 1, 0, 0, 1, 0, 2, 0}, {-1000, 0, -999, 0, 979, 116, 977, 116, 0},
            {-1000, 0, -999, 0, 973, 144, 971, 144, 1}, {-1000, 0, -999, 0, 957, 166, 958, 166, 0},
            {-1000, 0, -999, 1, 994, 19, 993, 19, -1}
        };
        for (int[] p : pairs) {
            LightRoom x = withCorners(p[0], p[1], p[2], p[3], p[4], p[5], p[6], p[7]);
            x.patch(0, 1, 0);
            x.patch(2, 3, 0);
            fine(12, "crossed " + java.util.Arrays.toString(p), x, x.crossed(0, 1), p[8]);
        }
        LightRoom x = square();
        refused(12, "like ones", x, 1, r -> r.crossed(0, 0));
        refused(12, "no patch", x, 1, r -> r.crossed(0, 4));
        refused(12, "no patch", x, 1, r -> r.crossed(MIN, 0));
    }

    private static void parts() {
        LightRoom x = facing(30);
        refused(13, "none", x, 2, r -> r.parts(0));
        refused(13, "below 0", x, 2, r -> r.parts(-1));
        refused(13, "1001", x, 2, r -> r.parts(1001));
        tells(13, "table as it was", x, x.light(0), "20/1");
        done(13, "the same number", x.parts(100), x);
        tells(13, "an empty table", x, x.light(0), "0/1");
        done(13, "the least", x.parts(1), x);
        done(13, "all of it", x.table(0, 1, 1), x);
        tells(13, "half of 30", x, x.light(0), "15/1");
        done(13, "the greatest", x.parts(1000), x);
        done(13, "a thousandth", x.table(0, 1, 1), x);
        tells(13, "half of a thousandth", x, x.light(0), "3/200");
    }

    private static void table() {
        LightRoom x = square();
        done(14, "all parts at first", x.table(0, 1, 100), x);
        refused(14, "one above", x, 2, r -> r.table(0, 2, 1));
        refused(14, "one above, like ones", x, 2, r -> r.table(0, 0, 1));
        done(14, "none above", x.table(0, 2, 0), x);
        done(14, "in its own place", x.table(0, 1, 99), x);
        done(14, "up to all", x.table(0, 0, 1), x);
        refused(14, "passed in its own place", x, 2, r -> r.table(0, 0, 2));
        done(14, "another row", x.table(1, 1, 100), x);
        refused(14, "below 0", x, 2, r -> r.table(2, 0, -1));
        refused(14, "101", x, 2, r -> r.table(2, 0, 101));
        refused(14, "greatest", x, 2, r -> r.table(0, 2, MAX));
        refused(14, "least", x, 2, r -> r.table(0, 2, MIN));
        refused(14, "no first patch", x, 1, r -> r.table(4, 0, 1));
        refused(14, "no second patch", x, 1, r -> r.table(0, -1, -1));
        x.on(0, 1, 2);
        x.own(1, 100);
        // 1/2 of 99/100 of 100 and of 1/100 of itself.
        tells(14, "what the table says", x, x.light(0), "9900/199");
    }

    private static void light() {
        LightRoom x = facing(30);
        tells(15, "the plain one", x, x.light(0), "20/1");
        tells(15, "the lamp", x, x.light(1), "40/1");
        x.own(1, 10);
        tells(15, "less own", x, x.light(0), "20/3");
        x.on(0, 0, 3);
        tells(15, "gives nothing on", x, x.light(0), "0/1");
        tells(15, "gets nothing", x, x.light(1), "10/1");
        refused(15, "no patch", x, 1, r -> r.light(2));
        refused(15, "no patch", x, 1, r -> r.light(-1));
        LightRoom y = ofKinds(1);
        y.own(0, 10000);
        y.on(0, 99, 100);
        y.table(0, 0, 100);
        tells(15, "the brightest", y, y.light(0), "1000000/1");
        LightRoom z = ofKinds(2, 0);
        z.own(0, 7);
        z.on(1, 1, 3);
        z.table(1, 0, 1);
        tells(15, "of a gap", z, z.light(0), "7/1");
        tells(15, "through a gap", z, z.light(1), "7/300");
        z.corner(100, 100);
        z.corner(100, 101);
        z.patch(4, 5, 0);
        tells(15, "with a patch more", z, z.light(1), "7/300");
        tells(15, "of a new patch", z, z.light(2), "0/1");
    }

    private static void bounce() {
        LightRoom x = facing(30);
        String[] plain = {"0/1", "15/1", "15/1", "75/4", "75/4", "315/16", "315/16"};
        String[] lamp = {"30/1", "30/1", "75/2", "75/2", "315/8", "315/8", "1275/32"};
        for (int t = 0; t <= 6; t++) {
            tells(16, "plain, " + t, x, x.bounce(0, t), plain[t]);
            tells(16, "lamp, " + t, x, x.bounce(1, t), lamp[t]);
        }
        refused(16, "t of 7", x, 2, r -> r.bounce(0, 7));
        refused(16, "t of -1", x, 2, r -> r.bounce(0, -1));
        refused(16, "no patch", x, 1, r -> r.bounce(2, 0));
        refused(16, "no patch, t of 7", x, 1, r -> r.bounce(-1, 7));
        LightRoom y = ofKinds(1);
        y.own(0, 1);
        y.on(0, 96, 97);
        y.parts(1000);
        y.table(0, 0, 999);
        // With q = 96 * 999 / 97000 this is 1 + q + .. + q^6.
        Fraction sum = Fraction.ZERO;
        for (int t = 0; t <= 6; t++) {
            sum = sum.times(Fraction.of(96 * 999, 97000)).plus(Fraction.ONE);
        }
        tells(16, "long", y, y.bounce(0, 6), sum.toString());
    }

    private static void pull() {
        LightRoom x = facing(30);
        tells(17, "of the lamp at the plain one", x, x.pull(0, 1), "2/3");
        tells(17, "of the lamp at itself", x, x.pull(1, 1), "4/3");
        tells(17, "of the plain one", x, x.pull(1, 0), "2/3");
        x.own(1, 0);
        tells(17, "without regard to own", x, x.pull(0, 1), "2/3");
        x.on(1, 0, 1);
        tells(17, "none on", x, x.pull(1, 0), "0/1");
        tells(17, "just itself", x, x.pull(0, 0), "1/1");
        x.table(0, 1, 50);
        tells(17, "not the other way about", x, x.pull(0, 1), "1/4");
        refused(17, "no first patch", x, 1, r -> r.pull(2, 0));
        refused(17, "no second patch", x, 1, r -> r.pull(0, -1));
    }

    private static void enough() {
        LightRoom x = facing(10000);
        int[][] wants = {{0, 0, 0}, {0, 1, 1}, {0, 5000, 1}, {0, 5001, 3}, {0, 6250, 3}, {0, 6251, 5},
            {0, 6562, 5}, {0, 6563, 7}, {0, 6666, 7}, {0, 6667, 9}, {0, 100000, 9},
            {1, 10000, 0}, {1, 10001, 2}, {1, 12501, 4}, {1, 13125, 4}, {1, 13126, 6}, {1, 13281, 6}, {1, 13282, 7},
            {1, 13333, 7}, {1, 13334, 9}};
        for (int[] want : wants) {
            x.want(want[0], want[1]);
            fine(18, "enough of " + want[0] + " for " + want[1], x, x.enough(want[0]), want[2]);
        }
        LightRoom y = facing(30);
        y.want(0, 20);
        fine(18, "just so after all bounces", y, y.enough(0), 8);
        y.want(0, 21);
        fine(18, "never", y, y.enough(0), 9);
        y.own(1, 300);
        fine(18, "with more own", y, y.enough(0), 1);
        refused(18, "no patch", y, 1, r -> r.enough(2));
        refused(18, "no patch", y, 1, r -> r.enough(-1));
        LightRoom z = ofKinds(1);
        z.own(0, 5);
        z.want(0, 5);
        fine(18, "just so at once", z, z.enough(0), 0);
    }

    private static void want() {
        LightRoom x = square();
        done(19, "greatest", x.want(0, 100000), x);
        due(19, "wanted", x.told(0, 6), 100000);
        done(19, "least", x.want(0, 0), x);
        due(19, "wanted", x.told(0, 6), 0);
        done(19, "of a gap", x.want(3, 5), x);
        due(19, "wanted", x.told(3, 6), 5);
        refused(19, "too great", x, 2, r -> r.want(0, 100001));
        refused(19, "below 0", x, 2, r -> r.want(0, -1));
        refused(19, "no patch", x, 1, r -> r.want(4, -1));
        refused(19, "no patch", x, 1, r -> r.want(-1, 0));
    }

    private static void price() {
        LightRoom x = square();
        done(20, "greatest", x.price(1, 1000, 10000), x);
        due(20, "price", x.told(1, 7), 1000);
        due(20, "most", x.told(1, 8), 10000);
        done(20, "least", x.price(1, 0, 0), x);
        due(20, "price", x.told(1, 7), 0);
        due(20, "most", x.told(1, 8), 0);
        refused(20, "price too great", x, 2, r -> r.price(1, 1001, 0));
        refused(20, "price below 0", x, 2, r -> r.price(1, -1, 0));
        refused(20, "most too great", x, 2, r -> r.price(1, 0, 10001));
        refused(20, "most below 0", x, 2, r -> r.price(1, 0, -1));
        refused(20, "of a plain one", x, 5, r -> r.price(0, 1, 1));
        refused(20, "of a gap", x, 5, r -> r.price(3, 1, 1));
        refused(20, "of a plain one, most below 0", x, 2, r -> r.price(0, 1, -1));
        refused(20, "no patch", x, 1, r -> r.price(4, -1, -1));
        refused(20, "no patch", x, 1, r -> r.price(-1, 1, 1));
    }

    private static void least() {
        LightRoom x = new LightRoom();
        tells(21, "of nothing", x, x.least(), "0/1");
        LightRoom y = facing(30);
        tells(21, "nothing wanted", y, y.least(), "0/1");
        y.want(0, 10);
        tells(21, "by what is wanted", y, y.least(), "15/1");
        due(21, "own stays", y.told(1, 5), 30);
        y.want(0, 11);
        tells(21, "a fraction", y, y.least(), "33/2");
        y.price(1, 1000, 10000);
        tells(21, "by price", y, y.least(), "16500/1");
        y.price(1, 1000, 16);
        refused(21, "above most", y, 8, r -> r.least());
        y.want(0, 10);
        y.price(1, 3, 15);
        tells(21, "just most", y, y.least(), "45/1");
        y.want(1, 30);
        refused(21, "the lamp's own wish", y, 8, r -> r.least());
        y.price(1, 3, 10000);
        tells(21, "the lamp's own wish", y, y.least(), "135/2");
        LightRoom z = ofKinds(0, 2);
        tells(21, "no lamps, nothing wanted", z, z.least(), "0/1");
        z.want(1, 5);
        refused(21, "a gap can't get more", z, 8, r -> r.least());
        z.own(1, 5);
        tells(21, "a gap has enough", z, z.least(), "0/1");
        z.want(0, 1);
        refused(21, "no lamps", z, 8, r -> r.least());
        z.on(0, 1, 5);
        z.table(0, 1, 100);
        tells(21, "by a gap", z, z.least(), "0/1");
    }

    private static void leastOfSeveral() {
        LightRoom x = ofKinds(1, 1, 0, 1);
        x.on(2, 1, 2);
        x.table(2, 0, 30);
        x.table(2, 1, 30);
        x.table(2, 3, 30);
        x.want(2, 9);
        tells(21, "three alike", x, x.least(), "60/1");
        powers(x, "0/1", "0/1", "60/1");
        x.price(3, 1, 50);
        powers(x, "0/1", "10/1", "50/1");
        x.price(1, 1, 4);
        powers(x, "6/1", "4/1", "50/1");
        tells(21, "all three", x, x.least(), "60/1");
        x.price(0, 1, 5);
        refused(21, "all three too weak", x, 8, r -> r.least());
        x.price(0, 0, 10000);
        tells(21, "for nothing", x, x.least(), "0/1");
        powers(x, "60/1", "0/1", "0/1");
        x.price(1, 0, 10000);
        powers(x, "0/1", "60/1", "0/1");
        x.price(1, 7, 10000);
        x.price(0, 8, 10000);
        x.price(3, 9, 10000);
        tells(21, "the cheapest", x, x.least(), "420/1");
        powers(x, "0/1", "60/1", "0/1");
        x.table(2, 1, 10);
        tells(21, "the best by price", x, x.least(), "480/1");
        powers(x, "60/1", "0/1", "0/1");
        LightRoom y = ofKinds(1, 1, 0, 0);
        y.on(2, 1, 2);
        y.on(3, 1, 2);
        y.table(2, 0, 60);
        y.table(2, 1, 20);
        y.table(3, 0, 10);
        y.table(3, 1, 70);
        y.want(2, 10);
        y.want(3, 10);
        // 3a + b = 100 and a + 7b = 200.
        tells(21, "two wishes", y, y.least(), "50/1");
        tells(22, "first of two wishes", y, y.power(0), "25/1");
        tells(22, "second of two wishes", y, y.power(1), "25/1");
    }

    private static void powers(LightRoom x, String first, String second, String third) {
        tells(22, "first lamp", x, x.power(0), first);
        tells(22, "second lamp", x, x.power(1), second);
        tells(22, "third lamp", x, x.power(3), third);
    }

    private static void power() {
        LightRoom x = facing(30);
        x.want(0, 11);
        x.price(1, 4, 10000);
        tells(22, "own, not price", x, x.power(1), "33/2");
        x.want(0, 22);
        tells(22, "without least between", x, x.power(1), "33/1");
        refused(22, "of a plain one", x, 5, r -> r.power(0));
        refused(22, "no patch", x, 1, r -> r.power(2));
        refused(22, "no patch", x, 1, r -> r.power(-1));
        x.price(1, 4, 32);
        refused(22, "there is none", x, 8, r -> r.power(1));
        refused(22, "there is none, of a plain one", x, 5, r -> r.power(0));
        x.on(0, 2, 3);
        tells(22, "as on changes", x, x.power(1), "22/1");
        x.table(0, 1, 80);
        tells(22, "as the table changes", x, x.power(1), "121/4");
    }
}
