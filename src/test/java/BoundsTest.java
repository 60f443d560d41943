import static java.lang.String.join;

import java.util.ArrayList;
import java.util.Arrays;
import java.util.List;

/**
 * Every bound that the document names: at it, just past it on both sides, and at the least and the
 * greatest int.
 */
public final class BoundsTest {
    public static void main(String[] args) {
        patchNumbers();
        outNumbers();
        cornerPlaces();
        patchCorners();
        patchKinds();
        patchesNearOthers();
        onNumbers();
        ownNumbers();
        toldNumbers();
        sightLines();
        sightPieces();
        lengthNumbers();
        shareNumbers();
        shareRounding();
        crossedDifferences();
        crossedByDowns();
        partsNumbers();
        tableNumbers();
        tableSums();
        bounceNumbers();
        enoughNumbers();
        enoughOfNothing();
        wantNumbers();
        priceNumbers();
        leastNumbers();
        leastTies();
        longestAnswers();
        Run.end("bounds");
    }

    // ---- helpers

    /** The call with each of some words in its gap, all of them with one due end. */
    private static String each(String call, String due, Object... words) {
        StringBuilder lines = new StringBuilder();
        for (Object word : words) {
            lines.append(String.format(call, word)).append(' ').append(due).append('\n');
        }
        return lines.toString();
    }

    private static String beyond(String call, int status, int below, int above) {
        return each(call, "refused " + status, below, above, "MIN", "MAX");
    }

    private static void furnished(String name, String... scripts) {
        Run.of(name, Rooms.FURNISHED, join("\n", scripts), Rooms.STILL_FURNISHED);
    }

    /** Two PATCHES by four places, and what is due of them. */
    private static void pair(String name, int[] places, String... scripts) {
        List<String> corners = new ArrayList<>();
        int[] numbers = new int[4];
        for (int c = 0; c < 4; c++) {
            String corner = "corner(" + places[2 * c] + ", " + places[2 * c + 1] + ") = ";
            if (!corners.contains(corner)) {
                corners.add(corner);
            }
            numbers[c] = corners.indexOf(corner);
        }
        StringBuilder lines = new StringBuilder();
        for (String corner : corners) {
            lines.append(corner).append(corners.indexOf(corner)).append('\n');
        }
        lines.append("patch(" + numbers[0] + ", " + numbers[1] + ", 0) = 0\n");
        lines.append("patch(" + numbers[2] + ", " + numbers[3] + ", 0) = 1\n");
        Run.of(name, lines.toString(), join("\n", scripts));
    }

    private static int[] at(int... places) {
        return places;
    }

    // ---- numbers of PATCHES, in every call that takes one

    private static void patchNumbers() {
        String[] ofOne = {"on(%s, 0, 1)", "own(%s, 0)", "told(%s, 0)", "length(%s, 0, true)", "light(%s)",
            "bounce(%s, 0)", "enough(%s)", "want(%s, 0)", "price(%s, 1, 1)", "power(%s)"};
        String[] ofTwo = {"sight(%s, 0)", "sight(3, %s)", "share(%s, 0, 0, true)", "share(3, %s, 0, false)",
            "crossed(%s, 0)", "crossed(3, %s)", "table(%s, 0, 0)", "table(3, %s, 0)", "pull(%s, 0)", "pull(3, %s)"};
        for (String call : ofOne) {
            furnished("patch number, " + call, beyond(call, 1, -1, 4), each(call, "refused 1", 5, 8));
        }
        for (String call : ofTwo) {
            furnished("patch number, " + call, beyond(call, 1, -1, 4), each(call, "refused 1", 5, 8));
        }
        furnished("first and last patch", """
            told(0, 0) = 0
            told(3, 0) = 2
            length(0, 0, true) = 10
            length(3, 0, true) = 10
            sight(0, 3) = 2
            sight(3, 0) = 2
            crossed(0, 3) = 1
            crossed(3, 0) = 1
            share(0, 3, 0, true) = 1
            share(3, 0, 0, true) = 1
            enough(0) = 1
            enough(3) = 0
            bounce(0, 0) tells 0/1
            bounce(3, 0) tells 40/1
            pull(0, 3) tells 5/39
            pull(3, 0) tells 0/1
            pull(3, 3) tells 1/1
            table(0, 3, 25) = true
            table(3, 0, 0) = true
            """);
        // The 8th PATCH is number 7, and no PATCH is number 8.
        Run.of("the 8th patch's number", Rooms.FULL, """
            told(7, 0) = 2
            on(7, 0, 9) = true
            own(7, 8) = true
            want(7, 6) = true
            table(7, 7, 100) = true
            table(0, 7, 100) = true
            light(7) tells 8/1
            bounce(7, 6) tells 8/1
            pull(7, 7) tells 1/1
            enough(7) = 0
            length(7, 0, false) = 1
            sight(7, 0) = 0
            crossed(7, 0) = -1
            price(7, 1, 1) refused 5
            power(7) refused 5
            told(8, 0) refused 1
            light(8) refused 1
            sight(0, 8) refused 1
            table(7, 8, 0) refused 1
            """);
    }

    // ---- walls

    private static void outNumbers() {
        furnished("out", """
            out(0) = 53
            out(5) = 57
            out(6) = -1
            out(7) = -1
            out(-1) = -1
            out(MIN) = -1
            out(MAX) = -1
            light(9) refused 1
            out(6) = -1
            status() = 1
            out(-1) = -1
            status() = 1
            """);
    }

    private static void cornerPlaces() {
        furnished("corner", beyond("corner(%s, 5)", 2, -1001, 1001), beyond("corner(5, %s)", 2, -1001, 1001));
        furnished("corner, both", """
            corner(1001, 1001) refused 2
            corner(-1001, -1001) refused 2
            corner(MIN, MIN) refused 2
            corner(MAX, MAX) refused 2
            corner(MIN, MAX) refused 2
            corner(1000, 1001) refused 2
            corner(-1001, -1000) refused 2
            corner(1000, 1000) = 4
            corner(-1000, -1000) = 5
            corner(1000, -1000) = 6
            corner(-1000, 1000) = 7
            corner(1000, 1000) refused 4
            corner(-1000, -1000) refused 4
            corner(999, 1000) = 8
            corner(1000, 999) = 9
            corner(0, 1000) = 10
            corner(1000, 0) = 11
            corner(0, 1) = 12
            corner(1, 0) = 13
            corner(0, 0) refused 4
            """);
    }

    private static void patchCorners() {
        furnished("patch's corners", beyond("patch(%s, 0, 0)", 1, -1, 4), beyond("patch(0, %s, 0)", 1, -1, 4));
        furnished("patch's corners, both", """
            patch(-1, -1, 0) refused 1
            patch(4, 4, 0) refused 1
            patch(MIN, MAX, 0) refused 1
            patch(4, 24, 0) refused 1
            patch(0, 0, 0) refused 1
            patch(3, 3, 0) refused 1
            corner(20, 20) = 4
            patch(4, 5, 0) refused 1
            patch(5, 4, 0) refused 1
            patch(4, 4, 0) refused 1
            patch(4, 2, 0) = 4
            told(4, 1) = 4
            told(4, 2) = 2
            """);
        Run.of("the 24th corner's number", Rooms.ALL_CORNERS, """
            patch(23, 24, 0) refused 1
            patch(24, 23, 0) refused 1
            patch(23, 23, 0) refused 1
            patch(23, 0, 0) = 0
            told(0, 1) = 23
            told(0, 2) = 0
            """);
    }

    private static void patchKinds() {
        furnished("kind", beyond("patch(0, 2, %s)", 2, -1, 3));
        for (int kind = 0; kind <= 2; kind++) {
            furnished("kind " + kind, "patch(0, 2, " + kind + ") = 4", "told(4, 0) = " + kind,
                "told(4, 3) = 0", "told(4, 4) = 1", "told(4, 5) = 0", "told(4, 6) = 0");
        }
    }

    private static void patchesNearOthers() {
        String longest = """
            corner(-1000, -1000) = 0
            corner(1000, 999) = 1
            patch(0, 1, 0) = 0
            """;
        // No other CORNER is nearer to that line than (-999, -999), on its left.
        Run.of("the least way off a patch", longest, """
            corner(-999, -999) = 2
            corner(-999, 1000) = 3
            corner(999, 998) = 4
            corner(1000, -1000) = 5
            patch(2, 3, 0) = 1
            patch(4, 5, 0) = 2
            patch(2, 5, 0) refused 7
            patch(5, 2, 0) refused 7
            patch(4, 3, 0) refused 7
            """);
        Run.of("just on a patch", """
            corner(-1000, -1000) = 0
            corner(1000, 1000) = 1
            corner(999, 999) = 2
            corner(1000, 999) = 3
            corner(-999, -999) = 4
            corner(-1000, 1000) = 5
            corner(999, 1000) = 6
            patch(0, 1, 0) = 0
            patch(2, 3, 0) refused 7
            patch(3, 2, 0) refused 7
            patch(4, 5, 0) refused 7
            patch(2, 4, 0) refused 7
            patch(0, 4, 0) refused 7
            patch(1, 2, 0) refused 7
            patch(1, 0, 0) refused 7
            patch(3, 6, 0) refused 7
            patch(3, 1, 0) = 1
            patch(1, 6, 0) = 2
            patch(0, 5, 0) = 3
            """);
        Run.of("over corners that are no patch's", """
            corner(5, 0) = 0
            corner(0, 0) = 1
            corner(10, 0) = 2
            corner(6, 0) = 3
            corner(5, 5) = 4
            corner(5, -5) = 5
            patch(1, 2, 0) = 0
            patch(0, 4, 0) refused 7
            patch(3, 4, 2) refused 7
            patch(5, 4, 1) refused 7
            patch(1, 2, 1) refused 7
            patch(2, 1, 1) refused 7
            patch(1, 4, 1) = 1
            patch(4, 2, 1) = 2
            patch(1, 5, 1) = 3
            patch(5, 2, 1) refused 5
            """);
        Run.of("the least that can be met", """
            corner(0, 0) = 0
            corner(1, 1) = 1
            corner(1, 0) = 2
            corner(0, 1) = 3
            corner(2, 2) = 4
            corner(2, 0) = 5
            corner(1, -1) = 6
            patch(0, 1, 0) = 0
            patch(2, 3, 0) refused 7
            patch(3, 2, 0) refused 7
            patch(6, 1, 0) = 1
            patch(2, 5, 0) refused 7
            patch(0, 2, 0) refused 7
            patch(2, 1, 0) refused 7
            patch(1, 4, 0) = 2
            patch(4, 5, 0) = 3
            patch(0, 3, 0) = 4
            """);
        Run.of("the middle of the least patches", """
            corner(0, 0) = 0
            corner(2, 0) = 1
            corner(1, 0) = 2
            corner(1, 5) = 3
            corner(7, 0) = 4
            corner(7, 2) = 5
            corner(7, 1) = 6
            corner(9, 5) = 7
            patch(0, 1, 0) = 0
            patch(2, 3, 0) refused 7
            patch(3, 2, 0) refused 7
            patch(4, 5, 0) = 1
            patch(6, 7, 0) refused 7
            patch(7, 6, 0) refused 7
            patch(5, 7, 0) = 2
            patch(1, 4, 0) = 3
            """);
        Run.of("along one line", """
            corner(0, 0) = 0
            corner(3, 0) = 1
            corner(4, 0) = 2
            corner(7, 0) = 3
            corner(2, 0) = 4
            corner(5, 0) = 5
            patch(0, 1, 0) = 0
            patch(4, 3, 0) refused 7
            patch(4, 1, 0) refused 7
            patch(0, 3, 0) refused 7
            patch(3, 2, 0) = 1
            patch(5, 4, 0) refused 7
            patch(1, 5, 0) refused 7
            patch(2, 1, 0) = 2
            patch(0, 2, 0) refused 7
            """);
    }

    private static void onNumbers() {
        furnished("d", beyond("on(0, 0, %s)", 2, 0, 101));
        furnished("n of d 100", beyond("on(0, %s, 100)", 2, -1, 100));
        furnished("n of d 1", beyond("on(0, %s, 1)", 2, -1, 1));
        furnished("n of a d that can't be", """
            on(0, 100, 101) refused 2
            on(0, -1, 0) refused 2
            on(0, -2, -1) refused 2
            on(0, 5, MIN) refused 2
            on(0, MAX, MIN) refused 2
            on(0, MIN, MIN) refused 2
            on(0, MAX, MAX) refused 2
            on(0, MIN, MAX) refused 2
            """);
        furnished("of a gap", beyond("on(3, %s, 9)", 2, -1, 9), """
            on(3, 1, 9) refused 5
            on(3, 8, 9) refused 5
            on(3, 0, 0) refused 2
            on(3, 0, 101) refused 2
            on(3, 0, 100) = true
            told(3, 4) = 100
            on(3, 0, 1) = true
            told(3, 3) = 0
            told(3, 4) = 1
            """);
        Run.of("on at its bounds", Rooms.SQUARE, """
            on(0, 0, 1) = true
            told(0, 3) = 0
            told(0, 4) = 1
            on(0, 99, 100) = true
            told(0, 3) = 99
            told(0, 4) = 100
            on(0, 0, 100) = true
            told(0, 3) = 0
            told(0, 4) = 100
            on(1, 98, 99) = true
            on(1, 99, 99) refused 2
            told(1, 3) = 98
            told(1, 4) = 99
            """);
    }

    private static void ownNumbers() {
        furnished("own of a lamp", beyond("own(1, %s)", 2, -1, 10001));
        furnished("own of a gap", beyond("own(3, %s)", 2, -1, 10001));
        furnished("own of a plain one", beyond("own(0, %s)", 2, -1, 10001),
            each("own(0, %s)", "refused 5", 1, 10000), "own(0, 0) = true");
        Run.of("own at its bounds", Rooms.SQUARE, """
            own(1, 10000) = true
            told(1, 5) = 10000
            own(1, 0) = true
            told(1, 5) = 0
            own(1, 1) = true
            own(3, 10000) = true
            told(3, 5) = 10000
            own(3, 0) = true
            told(3, 5) = 0
            own(3, 1) = true
            own(0, 1) refused 5
            own(2, 10000) refused 5
            own(2, 0) = true
            told(2, 5) = 0
            told(1, 5) = 1
            told(3, 5) = 1
            """);
    }

    private static void toldNumbers() {
        furnished("what", beyond("told(1, %s)", 2, -1, 9), """
            told(1, 0) = 1
            told(1, 1) = 1
            told(1, 2) = 2
            told(1, 3) = 1
            told(1, 4) = 4
            told(1, 5) = 30
            told(1, 6) = 0
            told(1, 7) = 3
            told(1, 8) = 900
            """);
    }

    /** A CORNER on a line is neither left nor right of it; 1 aside it is one of them. */
    private static void sightLines() {
        int[][] upright = {
            {20, 0, 20, 10, 2}, {20, -1, 20, 10, 1}, {20, 1, 20, 10, 2}, {20, -10, 20, 0, 0}, {20, -10, 20, 1, 1},
            {20, -10, 20, -1, 0}, {10, 5, 10, 15, 2}, {9, 5, 9, 15, 1}, {11, 5, 11, 15, 2}, {1, 5, 1, 15, 1},
            {0, 5, 0, 15, 0}, {-1, 5, -1, 15, 0}, {20, 0, 30, 0, 0}, {30, 0, 20, 0, 0}, {10, 0, 10, 10, 2},
            {10, 10, 10, 0, 0}, {0, 10, 0, 0, 2}, {0, 0, 0, 10, 0}, {0, 1, 10, 1, 0}, {10, 1, 0, 1, 2},
            {10, -1, 0, -1, 0}, {20, 0, 0, 1, 2}, {0, 1, 20, 0, 0}, {10, 0, 0, 1, 2}, {-5, 0, 1, 5, 0}, {1, 5, -5, 0, 2}
        };
        for (int[] b : upright) {
            pair("sight of " + Arrays.toString(b), at(0, 0, 10, 0, b[0], b[1], b[2], b[3]),
                "sight(0, 1) = " + b[4], "sight(1, 0) = " + b[4]);
        }
        pair("sight over all the plane", at(-1000, -1000, 1000, -1000, 1000, 1000, -1000, 1000),
            "sight(0, 1) = 2", "sight(1, 0) = 2");
        pair("sight along the least angle", at(-1000, -1000, 1000, 999, 999, 999, -1000, -999),
            "sight(0, 1) = 2", "sight(1, 0) = 2");
        // No CORNER is nearer to the first one's line, on its right, on it and on its left.
        pair("sight, the least way to the right", at(-1000, -1000, 0, -1, 999, 997, 999, 1000),
            "sight(0, 1) = 1", "sight(1, 0) = 1");
        pair("sight, far on the line", at(-1000, -1000, 0, -1, 1000, 998, 1000, 1000),
            "sight(0, 1) = 2", "sight(1, 0) = 2");
        pair("sight, the least way to the left", at(-1000, -1000, 0, -1, 1, 0, 1, 1000),
            "sight(0, 1) = 2", "sight(1, 0) = 2");
        pair("sight, one the least way to the left alone", at(-1000, -1000, 0, -1, 1000, -1000, 1, 0),
            "sight(0, 1) = 1", "sight(1, 0) = 1");
        pair("sight, one far on the line alone", at(-1000, -1000, 0, -1, 1000, -1000, 1000, 998),
            "sight(0, 1) = 0", "sight(1, 0) = 0");
        pair("sight, away by the least angle", at(-1000, -1000, 1000, 999, -1000, -999, 999, 999),
            "sight(0, 1) = 0", "sight(1, 0) = 0");
    }

    /** Floor and ceiling of a room, and a third PATCH on the edge of what both span, or inside it. */
    private static void sightPieces() {
        String room = """
            corner(-1000, -1000) = 0
            corner(1000, -1000) = 1
            corner(999, 1000) = 2
            corner(-1000, 1000) = 3
            patch(0, 1, 0) = 0
            patch(2, 3, 0) = 1
            sight(0, 1) = 2
            """;
        String[][] thirds = {
            {"corner(-1000, 0) = 4", "corner(-1000, 1) = 5", "2"}, {"corner(-1000, 0) = 4", "corner(-999, 0) = 5", "1"},
            {"corner(1000, -999) = 4", "corner(1000, 1000) = 5", "2"},
            {"corner(999, 999) = 4", "corner(1000, 999) = 5", "1"}, {"corner(1000, -999) = 4", "corner(999, -999) = 5", "1"},
            {"corner(1000, 0) = 4", "corner(1000, 1) = 5", "2"}, {"corner(0, 0) = 4", "corner(0, 1) = 5", "1"},
            {"corner(-999, -999) = 4", "corner(-998, -999) = 5", "1"}
        };
        for (String[] third : thirds) {
            for (int kind = 0; kind <= 2; kind++) {
                Run.of("sight past " + third[0] + " " + third[1], room, third[0], third[1],
                    "patch(4, 5, " + kind + ") = 2", "sight(0, 1) = " + third[2], "sight(1, 0) = " + third[2]);
            }
        }
        sightNearCorners();
        Run.of("sight past what closes the room", room, """
            patch(1, 2, 0) = 2
            patch(3, 0, 0) = 3
            sight(0, 1) = 2
            sight(1, 0) = 2
            sight(2, 3) = 2
            patch(0, 2, 0) = 4
            sight(0, 1) = 1
            sight(1, 0) = 1
            sight(0, 2) = 2
            sight(2, 3) = 1
            """);
        Run.of("sight between neighbours", """
            corner(0, 0) = 0
            corner(10, 0) = 1
            corner(10, 10) = 2
            corner(4, 4) = 3
            corner(5, 5) = 4
            corner(5, 4) = 5
            corner(0, 10) = 6
            patch(0, 1, 0) = 0
            patch(1, 2, 0) = 1
            patch(3, 4, 0) = 2
            sight(0, 1) = 2
            patch(6, 3, 0) = 3
            sight(0, 1) = 2
            patch(4, 5, 0) = 4
            sight(0, 1) = 1
            sight(1, 0) = 1
            """);
        Run.of("a patch through all that both span", """
            corner(0, 0) = 0
            corner(10, 0) = 1
            corner(10, 10) = 2
            corner(0, 10) = 3
            corner(-5, 5) = 4
            corner(15, 5) = 5
            corner(-5, 15) = 6
            corner(5, 15) = 7
            corner(-1, 10) = 8
            corner(0, 20) = 9
            patch(0, 1, 0) = 0
            patch(2, 3, 0) = 1
            patch(8, 9, 0) = 2
            patch(6, 7, 0) refused 7
            sight(0, 1) = 2
            patch(4, 5, 0) = 3
            sight(0, 1) = 1
            sight(1, 0) = 1
            """);
    }

    /** A third PATCH by the corners of what a floor and a ceiling of 10 span; it comes first. */
    private static void sightNearCorners() {
        int[][] thirds = {
            {-2, 9, 1, 12, 2}, {1, 12, -2, 9, 2}, {-20, 9, 3, 12, 2}, {-4, 12, 4, 4, 1}, {4, 4, -4, 12, 1},
            {-8, 13, 0, 5, 2}, {-8, 13, 1, 5, 1}, {-4, 11, -1, 4, 2}, {-1, 11, 1, 9, 7}, {14, 13, 9, 8, 1},
            {14, 12, 9, 7, 1}, {9, 12, 14, 7, 2}, {8, 11, 14, 5, 7}, {8, 12, 14, 6, 7}, {12, -2, 9, 3, 1}, {13, 2, 9, -2, 2},
            {-1, -4, -1, 14, 2}, {0, 1, 0, 9, 2}, {-1, 1, 11, 9, 1}, {-1, 9, 11, 1, 1}, {-9, 5, 30, 6, 1},
            {-3, 1, 1, 1, 1}, {9, 9, 10, 9, 1}, {10, 9, 11, 9, 2}, {10, 1, 10, 2, 2}, {-20, 8, -1, 9, 2},
            {-40, 12, 1, 9, 1}, {1, 9, -40, 12, 1}, {-3, 14, 1, 1, 1}, {-1, 40, 1, -8, 7}, {11, -1, 12, 30, 2}
        };
        for (int[] t : thirds) {
            String end = t[4] == 7 ? "refused 7" : "= 2";
            String due = t[4] == 7 ? "2" : String.valueOf(t[4]);
            String corners = "corner(0, 0) = 0\ncorner(10, 0) = 1\ncorner(10, 10) = 2\ncorner(0, 10) = 3\n"
                + "corner(" + t[0] + ", " + t[1] + ") = 4\ncorner(" + t[2] + ", " + t[3] + ") = 5\n";
            Run.of("sight past " + Arrays.toString(t), corners, "patch(0, 1, 0) = 0", "patch(2, 3, 0) = 1",
                "patch(4, 5, 0) " + end, "sight(0, 1) = " + due, "sight(1, 0) = " + due);
            if (t[4] != 7) {
                Run.of("sight past a first " + Arrays.toString(t), corners, "patch(4, 5, 0) = 0", "patch(0, 1, 0) = 1",
                    "patch(2, 3, 0) = 2", "sight(1, 2) = " + due, "sight(2, 1) = " + due);
            }
        }
        // A third one that only touches a corner of a span so small that nothing is far from its edges.
        Run.of("past the corner of a small span", """
            corner(1, 2) = 0
            corner(2, 2) = 1
            corner(1, 3) = 2
            corner(2, 1) = 3
            corner(0, 0) = 4
            patch(4, 2, 0) = 0
            patch(0, 3, 0) = 1
            patch(1, 0, 0) = 2
            sight(2, 1) = 2
            sight(1, 2) = 2
            """);
        Run.of("past another corner of a small span", """
            corner(1, 0) = 0
            corner(2, 2) = 1
            corner(0, 2) = 2
            corner(1, 2) = 3
            corner(1, 1) = 4
            corner(0, 1) = 5
            patch(0, 1, 0) = 0
            patch(5, 4, 0) = 1
            patch(4, 2, 0) = 2
            sight(1, 2) = 2
            sight(2, 1) = 2
            """);
        // The lines of all four edges are met by the third one, and yet it goes by below.
        Run.of("past a small span", """
            corner(3, 4) = 0
            corner(2, 5) = 1
            corner(2, 4) = 2
            corner(3, 3) = 3
            corner(0, 2) = 4
            corner(4, 3) = 5
            patch(0, 1, 0) = 0
            patch(2, 3, 0) = 1
            patch(4, 5, 0) = 2
            sight(0, 1) = 2
            sight(1, 0) = 2
            """);
        // It begins at a corner of the span and ends inside, the least way from an edge.
        Run.of("into a small span", """
            corner(1, 0) = 0
            corner(3, 0) = 1
            corner(1, 3) = 2
            corner(1, 2) = 3
            corner(2, 1) = 4
            patch(0, 1, 0) = 0
            patch(2, 3, 0) = 1
            sight(0, 1) = 2
            patch(0, 4, 0) = 2
            sight(0, 1) = 1
            sight(1, 0) = 1
            """);
        pair("the least room", at(0, 0, 1, 0, 1, 2, 0, 2), """
            sight(0, 1) = 2
            corner(0, 1) = 4
            corner(1, 1) = 5
            corner(-1, 1) = 6
            patch(6, 4, 0) = 2
            sight(0, 1) = 2
            patch(4, 5, 0) = 3
            sight(0, 1) = 1
            sight(1, 0) = 1
            """);
    }

    private static void lengthNumbers() {
        furnished("k of a length, up", beyond("length(0, %s, true)", 2, -1, 21));
        furnished("k of a length, down", beyond("length(0, %s, false)", 2, -1, 21), """
            length(0, 0, false) = 10
            length(0, 0, true) = 10
            length(0, 20, false) = 10485760
            length(0, 20, true) = 10485760
            """);
        Run.of("least and greatest lengths", """
            corner(-1000, -1000) = 0
            corner(1000, 1000) = 1
            corner(-1000, -999) = 2
            corner(-999, -1000) = 3
            corner(1000, 0) = 4
            corner(-1000, 1000) = 5
            patch(0, 1, 0) = 0
            patch(0, 2, 0) = 1
            patch(0, 3, 2) = 2
            patch(1, 4, 1) = 3
            patch(1, 5, 0) = 4
            length(0, 0, false) = 2828
            length(0, 0, true) = 2829
            length(0, 20, false) = 2965820800
            length(0, 20, true) = 2965820801
            length(1, 0, false) = 1
            length(1, 0, true) = 1
            length(1, 20, false) = 1048576
            length(2, 20, true) = 1048576
            length(3, 20, true) = 1048576000
            length(4, 20, false) = 2097152000
            length(4, 20, true) = 2097152000
            length(4, 19, true) = 1048576000
            """);
        pair("root of 2", at(0, 0, 1, 1, 5, 5, 7, 6), """
            length(0, 0, false) = 1
            length(0, 0, true) = 2
            length(0, 1, false) = 2
            length(0, 1, true) = 3
            length(0, 20, false) = 1482910
            length(0, 20, true) = 1482911
            length(1, 0, false) = 2
            length(1, 0, true) = 3
            """);
    }

    private static void shareNumbers() {
        furnished("k of a share, high", beyond("share(0, 2, %s, true)", 2, -1, 21));
        furnished("k of a share, low", beyond("share(0, 2, %s, false)", 2, -1, 21), """
            share(0, 2, 0, false) = 0
            share(0, 2, 0, true) = 1
            share(0, 2, 20, false) = 434334
            share(0, 2, 20, true) = 434335
            share(0, 0, 0, true) refused 1
            share(3, 3, 20, false) refused 1
            """);
        // SIGHT 1, of which one CORNER is behind, and SIGHT 0.
        pair("share without whole sight", at(0, 0, 10, 0, 20, -1, 20, 10), """
            sight(0, 1) = 1
            share(0, 1, 0, false) refused 6
            share(1, 0, 20, true) refused 6
            """);
        pair("share without sight", at(0, 0, 10, 0, 0, 10, 10, 10), """
            sight(0, 1) = 0
            share(0, 1, 0, true) refused 6
            share(1, 0, 20, false) refused 6
            """);
        furnished("share past another patch", """
            share(0, 2, 5, true) = 14
            patch(0, 2, 2) = 4
            share(0, 2, 5, true) refused 6
            share(2, 0, 5, false) refused 6
            share(0, 1, 5, true) = 10
            """);
    }

    private static void shareRounding() {
        Run.of("a quarter and a third", """
            corner(0, 0) = 0
            corner(4, 0) = 1
            corner(4, 3) = 2
            patch(0, 1, 0) = 0
            patch(1, 2, 0) = 1
            share(0, 1, 0, false) = 0
            share(0, 1, 0, true) = 1
            share(0, 1, 2, false) = 1
            share(0, 1, 2, true) = 1
            share(0, 1, 20, false) = 262144
            share(0, 1, 20, true) = 262144
            share(1, 0, 0, false) = 0
            share(1, 0, 0, true) = 1
            share(1, 0, 3, false) = 2
            share(1, 0, 3, true) = 3
            share(1, 0, 20, false) = 349525
            share(1, 0, 20, true) = 349526
            """);
        pair("a far share", at(0, 0, 1, 0, 1, 999, 0, 999), """
            share(0, 1, 0, false) = 0
            share(0, 1, 0, true) = 1
            share(0, 1, 10, false) = 0
            share(0, 1, 10, true) = 1
            share(0, 1, 20, false) = 524
            share(0, 1, 20, true) = 525
            """);
        shareBelowNone();
        // Low: 20 by twice UP, 22, and not by twice DOWN, 20. High: 23 by 20.
        pair("low by up of a", at(1, 8, 9, 1, 10, 1, 0, 9), "share(0, 1, 0, false) = 0", "share(0, 1, 0, true) = 2");
        // High: 11 by twice DOWN, 10, which leaves 1, and not by twice UP, 12.
        pair("high by down of a", at(5, 10, 0, 7, 0, 1, 8, 8), "share(0, 1, 0, false) = 0", "share(0, 1, 0, true) = 2");
        pair("low and high by 2 and 8", at(3, 5, 5, 2, 11, 2, 8, 9), "share(0, 1, 1, false) = 0",
            "share(0, 1, 1, true) = 2", "share(0, 1, 3, false) = 3", "share(0, 1, 3, true) = 5");
        // With any one of the lengths rounded to its other side, both answers would be other ones.
        pair("each length to its side", at(6, 7, 4, 6, 1, 3, 12, 4), "share(0, 1, 2, false) = 2", "share(0, 1, 2, true) = 5");
        pair("each length to its side, by 16", at(4, 6, 3, 8, 0, 10, 5, 2), "share(0, 1, 4, false) = 14",
            "share(0, 1, 4, true) = 17");
        // 19 times 2 by 38, and 8 by 8: nothing is left to round.
        pair("low just so", at(11, 0, 2, 3, 0, 3, 7, 1), "share(0, 1, 1, false) = 1", "share(0, 1, 1, true) = 2");
        pair("high just so", at(7, 4, 3, 6, 2, 5, 6, 2), "share(0, 1, 0, false) = 0", "share(0, 1, 0, true) = 1");
    }

    /** DOWNS less UPS are from -3 to -1 here. */
    private static void shareBelowNone() {
        pair("a low share below 0 is 0", at(3, 4, 3, 3, 8, 7, 7, 11), """
            share(0, 1, 0, false) = 0
            share(0, 1, 0, true) = 1
            share(0, 1, 1, false) = 0
            share(0, 1, 1, true) = 1
            """);
        pair("a low share below 0 is 0, by 8", at(11, 3, 11, 4, 6, 6, 3, 7), "share(0, 1, 3, false) = 0");
        pair("a low share below 0 is 0, by 2^20", at(0, 0, 1, 0, 926, 36, 925, 36), "share(0, 1, 20, false) = 0",
            "share(1, 0, 20, false) = 0");
    }

    /** Each pair is by so many units of 2 to the power -20 crossed more than uncrossed. */
    private static void crossedDifferences() {
        int[][] pairs = {
            {638, 30, 637, 30, 0}, {280, 11, 279, 11, 1}, {762, 42, 763, 42, 0}, {515, 2, 516, 1, -1},
            {855, 64, 854, 64, 1}, {919, 0, 918, 1, 0}
        };
        for (int[] b : pairs) {
            pair("crossed by " + b[0], at(0, 0, 1, 0, b[0], b[1], b[2], b[3]), "crossed(0, 1) = " + b[4], "status() = 0");
        }
        pair("crossed by -5", at(0, 0, 1, 1, 287, 271, 288, 272), "crossed(0, 1) = -1", "crossed(1, 0) = -1");
        pair("crossed by -5, far", at(-1000, 0, -999, 1, 994, 19, 993, 19), "crossed(0, 1) = -1");
        pair("crossed by 5, far", at(-1000, 0, -999, 0, 973, 144, 971, 144), "crossed(0, 1) = 1");
        pair("crossed by 4, far", at(-1000, 0, -999, 0, 979, 116, 977, 116), "crossed(0, 1) = 0");
        pair("crossed by -4, far", at(-1000, 0, -999, 0, 957, 166, 958, 166), "crossed(0, 1) = 0");
        pair("crossed over all the plane", at(-1000, -1000, 1000, -1000, 1000, 1000, -1000, 1000), "crossed(0, 1) = 1");
        pair("uncrossed over all the plane", at(-1000, -1000, 1000, -1000, -1000, 1000, 1000, 1000), """
            crossed(0, 1) = -1
            status() = 0
            crossed(0, 0) refused 1
            status() = 1
            crossed(1, 1) refused 1
            """);
    }

    /** DOWNS that differ by 4 or 5, where the other one is what UPS or the true lengths differ by. */
    private static void crossedByDowns() {
        int[][] pairs = {
            {614, 35, 613, 35, 1},    // 5, and UPS 4
            {685, 37, 684, 37, 0},    // 4, and UPS 6
            {613, 35, 614, 35, -1},   // -5, and UPS -4
            {684, 37, 685, 37, 0},    // -4, and UPS -6
            {322, 10, 321, 10, 1},    // 5, and in truth less than 3.2
            {144, 4, 143, 4, 0},      // 4, and in truth more than 5.7
            {321, 10, 322, 10, -1},   // -5, and in truth more than -3.2
            {143, 4, 144, 4, 0}       // -4, and in truth less than -5.7
        };
        for (int[] b : pairs) {
            pair("crossed by downs, " + b[0], at(0, 0, 1, 0, b[0], b[1], b[2], b[3]), "crossed(0, 1) = " + b[4],
                "crossed(1, 0) = " + b[4]);
        }
    }

    // ---- light

    private static void partsNumbers() {
        furnished("parts", beyond("parts(%s)", 2, 0, 1001), "parts(-1) refused 2", "table(0, 1, 75) = true",
            "table(0, 1, 76) refused 2", "table(0, 1, 50) = true");
        Run.of("parts of 1", Rooms.LONE_LAMP, """
            own(0, 6) = true
            light(0) tells 12/1
            parts(1) = true
            light(0) tells 6/1
            table(0, 0, 2) refused 2
            table(0, 0, 1) = true
            light(0) tells 12/1
            parts(1000) = true
            light(0) tells 6/1
            table(0, 0, 1001) refused 2
            table(0, 0, 1000) = true
            light(0) tells 12/1
            parts(1000) = true
            light(0) tells 6/1
            """);
    }

    private static void tableNumbers() {
        furnished("part", beyond("table(1, 1, %s)", 2, -1, 61), "table(1, 0, 101) refused 2", "table(1, 2, 101) refused 2");
        furnished("part in its own place", beyond("table(0, 1, %s)", 2, -1, 76), beyond("table(0, 3, %s)", 2, -1, 51));
        furnished("part of a gap's row", beyond("table(3, 3, %s)", 2, -1, 41), "table(3, 3, 40) = true", "table(3, 3, 0) = true");
        furnished("an empty place in a full row", """
            table(0, 0, 25) = true
            table(0, 2, 1) refused 2
            table(0, 2, MAX) refused 2
            table(0, 2, 0) = true
            table(0, 0, 26) refused 2
            table(0, 0, 0) = true
            """);
        Run.of("part at its bounds", Rooms.SQUARE, """
            table(0, 0, 0) = true
            table(0, 0, 100) = true
            table(0, 0, 101) refused 2
            table(0, 3, 1) refused 2
            table(0, 0, 99) = true
            table(0, 3, 1) = true
            table(0, 3, 2) refused 2
            table(3, 3, 100) = true
            table(3, 3, 101) refused 2
            """);
    }

    private static void tableSums() {
        StringBuilder row = new StringBuilder();
        for (int j = 0; j < 7; j++) {
            row.append("table(7, " + j + ", 125) = true\ntable(" + j + ", 7, 1000) = true\n");
        }
        Run.of("a row of eight", Rooms.FULL, "parts(1000) = true", row.toString(), """
            table(7, 7, 126) refused 2
            table(7, 7, 1000) refused 2
            table(7, 7, 125) = true
            table(7, 0, 126) refused 2
            table(7, 0, 124) = true
            table(7, 7, 126) = true
            table(7, 7, 127) refused 2
            table(0, 0, 1) refused 2
            """);
    }

    private static void bounceNumbers() {
        furnished("t", beyond("bounce(0, %s)", 2, -1, 7));
        Run.of("all bounces", Rooms.LONE_LAMP, """
            own(0, 64) = true
            bounce(0, 0) tells 64/1
            bounce(0, 1) tells 96/1
            bounce(0, 2) tells 112/1
            bounce(0, 3) tells 120/1
            bounce(0, 4) tells 124/1
            bounce(0, 5) tells 126/1
            bounce(0, 6) tells 127/1
            bounce(0, 7) refused 2
            bounce(0, 0) tells 64/1
            light(0) tells 128/1
            """);
    }

    private static void enoughNumbers() {
        int[][] wants = {{0, 0}, {1, 0}, {64, 0}, {65, 1}, {96, 1}, {97, 2}, {112, 2}, {113, 3}, {120, 3}, {121, 4},
            {124, 4}, {125, 5}, {126, 5}, {127, 6}, {128, 8}, {129, 9}, {100000, 9}};
        StringBuilder lines = new StringBuilder("own(0, 64) = true\n");
        for (int[] want : wants) {
            lines.append("want(0, " + want[0] + ") = true\nenough(0) = " + want[1] + "\n");
        }
        Run.of("enough", Rooms.LONE_LAMP, lines.toString());
        Run.of("enough after all bounces alone", Rooms.LONE_LAMP, """
            own(0, 640) = true
            want(0, 1270) = true
            enough(0) = 6
            want(0, 1271) = true
            enough(0) = 7
            want(0, 1279) = true
            enough(0) = 7
            want(0, 1280) = true
            enough(0) = 8
            want(0, 1281) = true
            enough(0) = 9
            own(0, 641) = true
            enough(0) = 7
            """);
        Run.of("just enough by a bounce is no 8", Rooms.LONE_LAMP, """
            table(0, 0, 0) = true
            want(0, 10000) = true
            enough(0) = 9
            own(0, 9999) = true
            enough(0) = 9
            own(0, 10000) = true
            enough(0) = 0
            on(0, 99, 100) = true
            table(0, 0, 100) = true
            want(0, 100000) = true
            enough(0) = 7
            own(0, 1000) = true
            enough(0) = 8
            own(0, 999) = true
            enough(0) = 9
            """);
    }

    /** The LAMP would light the PLAIN one and itself a hundredfold, if it had light of its own. */
    private static void enoughOfNothing() {
        Run.of("enough of nothing", """
            corner(0, 0) = 0
            corner(0, 1) = 1
            corner(1, 0) = 2
            corner(1, 1) = 3
            corner(2, 0) = 4
            corner(2, 1) = 5
            patch(0, 1, 1) = 0
            patch(2, 3, 0) = 1
            patch(4, 5, 0) = 2
            parts(1000) = true
            on(0, 99, 100) = true
            on(1, 99, 100) = true
            table(0, 0, 1000) = true
            table(1, 0, 1000) = true
            pull(0, 0) tells 100/1
            pull(1, 0) tells 99/1
            want(0, 1) = true
            want(1, 1) = true
            enough(0) = 9
            enough(1) = 9
            enough(2) = 0
            own(0, 1) = true
            enough(0) = 0
            enough(1) = 2
            """);
    }

    private static void wantNumbers() {
        furnished("want", beyond("want(0, %s)", 2, -1, 100001));
        furnished("want of a gap", beyond("want(3, %s)", 2, -1, 100001));
        Run.of("want at its bounds", Rooms.SQUARE, """
            want(0, 100000) = true
            told(0, 6) = 100000
            want(0, 0) = true
            told(0, 6) = 0
            want(1, 100000) = true
            told(1, 6) = 100000
            want(3, 100000) = true
            told(3, 6) = 100000
            told(2, 6) = 0
            """);
    }

    private static void priceNumbers() {
        furnished("price", beyond("price(1, %s, 5)", 2, -1, 1001));
        furnished("most", beyond("price(1, 5, %s)", 2, -1, 10001));
        furnished("price and most of others", each("price(%s, 0, 0)", "refused 5", 0, 2, 3),
            each("price(%s, 1, 10000)", "refused 5", 0, 2, 3));
        Run.of("price at its bounds", Rooms.SQUARE, """
            told(1, 7) = 1
            told(1, 8) = 10000
            price(1, 1000, 10000) = true
            told(1, 7) = 1000
            told(1, 8) = 10000
            price(1, 0, 0) = true
            told(1, 7) = 0
            told(1, 8) = 0
            price(1, 1000, 0) = true
            told(1, 7) = 1000
            told(1, 8) = 0
            price(1, 0, 10000) = true
            told(1, 7) = 0
            told(1, 8) = 10000
            """);
    }

    private static void leastNumbers() {
        Run.of("least up to most", Rooms.LONE_LAMP, """
            least() tells 0/1
            want(0, 20) = true
            least() tells 10/1
            price(0, 1, 10) = true
            least() tells 10/1
            price(0, 1, 9) = true
            least() refused 8
            power(0) refused 8
            want(0, 18) = true
            least() tells 9/1
            want(0, 19) = true
            least() refused 8
            price(0, 1, 0) = true
            least() refused 8
            want(0, 0) = true
            least() tells 0/1
            power(0) tells 0/1
            """);
        Run.of("least at the bounds of all its numbers", Rooms.LONE_LAMP, """
            price(0, 1000, 10000) = true
            want(0, 20000) = true
            least() tells 10000000/1
            power(0) tells 10000/1
            want(0, 20001) = true
            least() refused 8
            want(0, 100000) = true
            least() refused 8
            on(0, 9, 10) = true
            least() tells 10000000/1
            on(0, 89, 100) = true
            least() refused 8
            on(0, 99, 100) = true
            least() tells 1000000/1
            price(0, 0, 10000) = true
            least() tells 0/1
            power(0) tells 1000/1
            """);
        Run.of("least doesn't look at the lamp's own", Rooms.LONE_LAMP, """
            own(0, 10000) = true
            want(0, 1) = true
            least() tells 1/2
            power(0) tells 1/2
            told(0, 5) = 10000
            price(0, 7, 1) = true
            own(0, 2) = true
            least() tells 7/2
            """);
        Run.of("a gap's own is just enough", """
            corner(0, 0) = 0
            corner(1, 0) = 1
            patch(0, 1, 2) = 0
            want(0, 10000) = true
            own(0, 9999) = true
            least() refused 8
            own(0, 10000) = true
            least() tells 0/1
            want(0, 10001) = true
            least() refused 8
            """);
    }

    private static void leastTies() {
        String three = Rooms.FULL + """
            on(3, 1, 2) = true
            table(3, 0, 20) = true
            table(3, 1, 20) = true
            table(3, 2, 20) = true
            want(3, 6) = true
            """;
        Run.of("of several the first", three, """
            least() tells 60/1
            power(0) tells 0/1
            power(1) tells 0/1
            power(2) tells 60/1
            price(2, 1, 59) = true
            power(0) tells 0/1
            power(1) tells 1/1
            power(2) tells 59/1
            price(1, 1, 0) = true
            power(0) tells 1/1
            power(1) tells 0/1
            price(0, 1, 1) = true
            least() tells 60/1
            price(0, 1, 0) = true
            least() refused 8
            power(2) refused 8
            """);
        Run.of("of several without a price the first", three, """
            price(0, 0, 10000) = true
            price(1, 0, 10000) = true
            price(2, 0, 10) = true
            least() tells 0/1
            power(0) tells 0/1
            power(1) tells 50/1
            power(2) tells 10/1
            want(3, 0) = true
            power(1) tells 0/1
            power(2) tells 0/1
            """);
        Run.of("three lamps at all their bounds", Rooms.FULL, """
            price(0, 1000, 10000) = true
            price(1, 1000, 10000) = true
            price(2, 1000, 10000) = true
            want(0, 10000) = true
            want(1, 10000) = true
            want(2, 10000) = true
            least() tells 30000000/1
            power(2) tells 10000/1
            price(2, 1000, 9999) = true
            least() refused 8
            """);
    }

    /** Numbers of over a hundred digits: OUT ends where the answer says, and the model agrees. */
    private static void longestAnswers() {
        LightRoom room = new LightRoom();
        Model model = new Model();
        int[] kinds = {1, 0, 1, 0, 0, 1, 0, 0};
        int[] bottoms = {100, 99, 97, 91, 89, 83, 79, 73};
        room.parts(997);
        model.parts(997);
        for (int p = 0; p < 8; p++) {
            room.corner(p, 0);
            model.corner(p, 0);
            room.corner(p, 1);
            model.corner(p, 1);
            room.patch(2 * p, 2 * p + 1, kinds[p]);
            model.patch(2 * p, 2 * p + 1, kinds[p]);
            room.on(p, bottoms[p] - 1, bottoms[p]);
            model.on(p, bottoms[p] - 1, bottoms[p]);
            room.own(p, kinds[p] * (9990 + p));
            model.own(p, kinds[p] * (9990 + p));
        }
        for (int p = 0; p < 8; p++) {
            for (int j = 0; j < 8; j++) {
                room.table(p, j, 113 + (p * 5 + j * 3) % 8 + (j == 7 ? 65 : 0));
                model.table(p, j, 113 + (p * 5 + j * 3) % 8 + (j == 7 ? 65 : 0));
            }
        }
        int size = room.bounce(7, 6);
        int due = model.bounce(7, 6);
        String text = Run.text(room);
        boolean alike = size == due && text.length() == size && size > 190;
        for (int k = 0; k < size; k++) {
            alike &= text.charAt(k) == model.out(k);
        }
        if (!alike || room.out(size) != -1 || room.out(2 * size) != -1) {
            Run.wrong("longest answers", "bounce told " + text + " of " + size + ", due are " + due);
        }
    }
}
