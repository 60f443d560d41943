import java.io.IOException;
import java.nio.file.Files;
import java.nio.file.Path;

/**
 * The document from its first line to its last, sentence by sentence. Behind each sentence that a
 * call can show stand the tests that show it, or runs that show it here. No sentence is left out:
 * the document's text must be these sentences and nothing else.
 */
public final class SentencesTest {
    private static String document = "";
    private static int read = 0;

    public static void main(String[] args) throws IOException {
        document = text(Files.readString(Path.of("../shared/DOC.md")));
        whatItIs();
        corners();
        sight();
        strings();
        table();
        light();
        least();
        statuses();
        faceWords();
        wallPromises();
        lightPromises();
        notPromised();
        if (read != document.length()) {
            Run.wrong("the document", "goes on with: " + document.substring(read));
        }
        Run.end("sentences");
    }

    // ---- helpers

    /** Without headings, without the face, which RulesTest has, and with single spaces. */
    private static String text(String markdown) {
        return plain(markdown.replaceAll("(?s)```java.*?```", "").replaceAll("```(text)?", "").replaceAll("(?m)^#.*$", ""));
    }

    private static String plain(String words) {
        return words.replaceAll("\\s+", " ").trim();
    }

    /** What the document says next. */
    private static void says(String sentences) {
        String next = plain(sentences);
        if (!document.startsWith(next, read)) {
            Run.wrong("the document", "does not go on with: " + next);
            return;
        }
        read += next.length();
        while (read < document.length() && document.charAt(read) == ' ') {
            read++;
        }
    }

    private static void shownBy(Class<?> test, String... methods) {
        for (String method : methods) {
            try {
                test.getDeclaredMethod(method);
            } catch (NoSuchMethodException missing) {
                Run.wrong("the document", "is shown by " + test.getName() + "." + method + ", which there isn't");
            }
        }
    }

    // ---- What it is

    private static void whatItIs() {
        says("""
            A flat world of rooms: walls as straight patches between corners, each with a side that is seen;
            what sees what, by lines through corners alone; shares by strings drawn crossed and uncrossed,
            shut in between whole numbers; with told shares the light of all bounces without end, exactly,
            what each lamp does at each patch, and the least price of lamps with which all have enough.
            ==== 1.
            """);
        wholeRoom();
        says("An object is used for at most 512 calls after it has been made; what later calls answer is free.");
        shownBy(EmptyAndFullTest.class, "lastCall");
    }

    /**
     * A room of 4 by 3, of which the diagonals are 5: its shares by strings are halves, quarters and
     * thirds, and are told as twelfths. Light of floor f and wall w: f = l/4 + w/8 + g/8 and
     * w = f/6 + l/6 + g/6 with lamp l and gap g, so that f = (13 l + 7 g) / 47.
     */
    private static void wholeRoom() {
        Run.of("a whole room", """
            corner(0, 0) = 0
            corner(4, 0) = 1
            corner(4, 3) = 2
            corner(0, 3) = 3
            patch(0, 1, 0) = 0
            patch(1, 2, 0) = 1
            patch(2, 3, 1) = 2
            patch(3, 0, 2) = 3
            sight(0, 2) = 2
            share(0, 2, 1, false) = 1
            share(0, 2, 1, true) = 1
            share(0, 1, 2, false) = 1
            share(0, 1, 2, true) = 1
            share(1, 0, 2, false) = 1
            share(1, 0, 2, true) = 2
            parts(12) = true
            table(0, 2, 6) = true
            table(0, 1, 3) = true
            table(0, 3, 3) = true
            table(1, 0, 4) = true
            table(1, 2, 4) = true
            table(1, 3, 4) = true
            on(0, 1, 2) = true
            on(1, 1, 2) = true
            own(2, 30) = true
            own(3, 8) = true
            light(0) tells 446/47
            pull(0, 2) tells 13/47
            pull(0, 3) tells 7/47
            own(3, 0) = true
            want(0, 13) = true
            price(2, 2, 100) = true
            least() tells 94/1
            power(2) tells 47/1
            """);
    }

    // ---- Terms: ==== 1.

    private static void corners() {
        says("""
            CORNERS, at most 24, numbered as they come: whole numbers x, y from -1,000 to 1,000, no two
            alike.
            """);
        shownBy(EmptyAndFullTest.class, "lastCorner");
        shownBy(BoundsTest.class, "cornerPlaces");
        says("""
            PATCHES, at most 8, numbered as they come: each from one CORNER to another one, its SEEN side
            being the left one, going along it (x to the right, y up).
            """);
        shownBy(EmptyAndFullTest.class, "lastPatch");
        shownBy(BoundsTest.class, "patchCorners", "sightLines");
        says("Two PATCHES have no point in common that isn't a CORNER of both.");
        shownBy(PromisesTest.class, "patchesThatMeet");
        shownBy(BoundsTest.class, "patchesNearOthers");
        meetingOfEveryKind();
        says("KINDS: 0 PLAIN, 1 LAMP, 2 GAP.");
        shownBy(BoundsTest.class, "patchKinds");
        kindsApart();
        says("""
            ON: n by d (d 1 to 100, n from 0 to d - 1; of a GAP 0): the share of what comes that it gives
            on.
            """);
        shownBy(BoundsTest.class, "onNumbers");
        shownBy(PromisesTest.class, "light");
        says("OWN: 0 to 10,000 (of a PLAIN one 0): light of its own.");
        shownBy(BoundsTest.class, "ownNumbers");
        shownBy(PromisesTest.class, "light");
        says("""
            LEFT of a PATCH's line is a point, if going from its first to its second CORNER one has it on
            the left hand; ON the line it is neither.
            """);
        shownBy(BoundsTest.class, "sightLines");
    }

    /** A PATCH of any KIND may not meet one of any KIND, the first, the last or one between. */
    private static void meetingOfEveryKind() {
        for (int kind = 0; kind <= 2; kind++) {
            for (int other = 0; other <= 2; other++) {
                Run.of("kind " + other + " that meets kind " + kind, Rooms.ALL_CORNERS,
                    "patch(0, 2, " + kind + ") = 0\npatch(4, 7, " + kind + ") = 1\npatch(10, 12, 0) = 2",
                    "patch(5, 6, " + other + ") refused 7\npatch(6, 5, " + other + ") refused 7",
                    "patch(2, 0, " + other + ") refused 7\npatch(1, 3, " + other + ") = 3");
            }
        }
    }

    /** A PLAIN one has no OWN, a GAP gives nothing on, and of LAMPS alone there is a PRICE to tell. */
    private static void kindsApart() {
        Run.of("kinds apart", Rooms.SQUARE, """
            own(0, 1) refused 5
            own(1, 1) = true
            own(3, 1) = true
            on(0, 1, 2) = true
            on(1, 1, 2) = true
            on(3, 1, 2) refused 5
            price(0, 1, 1) refused 5
            price(1, 1, 1) = true
            price(3, 1, 1) refused 5
            power(0) refused 5
            power(1) tells 0/1
            power(3) refused 5
            """);
    }

    // ---- Terms: ==== 2.

    private static void sight() {
        says("""
            ==== 2. SIGHT of PATCHES a and b (other ones): 0, if no CORNER of b is LEFT of a's line, or
            none of a LEFT of b's.
            """);
        shownBy(PromisesTest.class, "sight");
        shownBy(BoundsTest.class, "sightLines");
        says("""
            Else 2 (WHOLE), if all CORNERS of each are LEFT of the other's line or on it, and no other
            PATCH has a point inside the least convex piece of the plane that has both (not on its edge).
            """);
        shownBy(PromisesTest.class, "sightPastOthers");
        shownBy(BoundsTest.class, "sightLines", "sightPieces", "sightNearCorners");
        sightPastEveryKind();
        sightWithoutPatches();
        says("Else 1.");
        shownBy(BoundsTest.class, "sightLines", "sightPieces");
    }

    /** Whatever its KIND is and whichever side of it is seen, another PATCH is one. */
    private static void sightPastEveryKind() {
        for (int kind = 0; kind <= 2; kind++) {
            for (String ends : new String[] {"4, 5", "5, 4"}) {
                Run.of("sight past kind " + kind + " from " + ends, Rooms.SQUARE, """
                    corner(5, 5) = 4
                    corner(6, 6) = 5
                    sight(0, 2) = 2
                    sight(1, 3) = 2
                    """, "patch(" + ends + ", " + kind + ") = 4", """
                    sight(0, 2) = 1
                    sight(2, 0) = 1
                    sight(1, 3) = 1
                    sight(3, 1) = 1
                    sight(1, 2) = 1
                    sight(0, 1) = 2
                    sight(0, 3) = 2
                    share(0, 2, 0, true) refused 6
                    """);
            }
        }
    }

    /** A CORNER inside cuts nothing, as long as no PATCH is there. */
    private static void sightWithoutPatches() {
        Run.of("sight past a corner alone", Rooms.SQUARE, """
            corner(5, 5) = 4
            corner(5, 6) = 5
            sight(0, 2) = 2
            sight(3, 1) = 2
            """);
    }

    private static void strings() {
        says("""
            STRINGS of a (from A to B) and b (from C to D): crossed A to C and B to D, uncrossed A to D and
            B to C.
            """);
        shownBy(PromisesTest.class, "crossed", "share");
        stringsOfEveryKind();
        says("""
            The LENGTH of a string or PATCH, by 2 to the power k (0 to 20): DOWN is the greatest whole
            number of which the square is not above 4 to the power k times the square of the true length,
            UP that itself, if its square is just that, else 1 more.
            """);
        shownBy(BoundsTest.class, "lengthNumbers");
        lengthByEveryPower();
        says("""
            SHARE of a to b, SIGHT being 2, by 2 to the power k: LOW: both DOWNS of the crossed ones less
            both UPS of the uncrossed ones (0 if below), times 2 to the power k, by twice UP of a, rounded
            down; HIGH: both UPS of the crossed ones less both DOWNS of the uncrossed ones (0 if below),
            times 2 to the power k, by twice DOWN of a, rounded up.
            """);
        shownBy(BoundsTest.class, "shareNumbers", "shareRounding", "shareBelowNone");
        shareByEveryPower();
    }

    /** Opposite sides of the square by its diagonals, its neighbours by one of them. */
    private static void stringsOfEveryKind() {
        for (int a = 0; a < 4; a++) {
            StringBuilder lines = new StringBuilder();
            for (int b = 0; b < 4; b++) {
                if (a != b) {
                    int low = (a + b) % 2 == 0 ? 424 : 299;
                    lines.append("sight(" + a + ", " + b + ") = 2\ncrossed(" + a + ", " + b + ") = 1\n");
                    lines.append("share(" + a + ", " + b + ", 10, false) = " + low + "\n");
                    lines.append("share(" + a + ", " + b + ", 10, true) = " + (low + 1) + "\n");
                }
            }
            Run.of("strings of patch " + a, Rooms.SQUARE, lines.toString());
        }
    }

    private static void lengthByEveryPower() {
        int[] rootsOfTwo = {1, 2, 5, 11, 22, 45, 90, 181, 362, 724, 1448, 2896, 5792, 11585, 23170, 46340, 92681,
            185363, 370727, 741455, 1482910};
        StringBuilder lines = new StringBuilder("corner(3, 3) = 0\ncorner(4, 2) = 1\npatch(0, 1, 0) = 0\n");
        for (int k = 0; k <= 20; k++) {
            lines.append("length(0, " + k + ", false) = " + rootsOfTwo[k] + "\n");
            lines.append("length(0, " + k + ", true) = " + (rootsOfTwo[k] + 1) + "\n");
        }
        Run.of("length by every power", lines.toString());
    }

    /** In the triangle of 3, 4 and 5 the SHARE of the shorter side to the longer one is a third. */
    private static void shareByEveryPower() {
        StringBuilder lines = new StringBuilder("corner(0, 0) = 0\ncorner(4, 0) = 1\ncorner(4, 3) = 2\n");
        lines.append("patch(0, 1, 0) = 0\npatch(1, 2, 0) = 1\n");
        for (int k = 0; k <= 20; k++) {
            int third = (1 << k) / 3;
            lines.append("share(1, 0, " + k + ", false) = " + third + "\n");
            lines.append("share(1, 0, " + k + ", true) = " + (third + 1) + "\n");
        }
        Run.of("share by every power", lines.toString());
    }

    // ---- Terms: ==== 3.

    private static void table() {
        says("""
            ==== 3. A TABLE tells for each two PATCHES (i, j), like ones too, which share of what comes to
            i comes from j: a number of PARTS (PARTS of the TABLE: 1 to 1,000; 100 at first), 0 at first;
            those of one i together are at most PARTS.
            """);
        shownBy(PromisesTest.class, "table");
        shownBy(BoundsTest.class, "partsNumbers", "tableNumbers", "tableSums");
        shownBy(EmptyAndFullTest.class, "newPatches", "fullTable");
        says("(It is told; SIGHT and STRINGS are not looked at.)");
        tableWithoutSight();
    }

    /** Of SIGHT 0, 1 and 2 all shares are told alike, and a wall more changes no light. */
    private static void tableWithoutSight() {
        Run.of("a table without regard to sight", """
            corner(0, 0) = 0
            corner(10, 0) = 1
            corner(0, -5) = 2
            corner(10, -5) = 3
            corner(20, 5) = 4
            corner(20, -5) = 5
            corner(10, 9) = 6
            corner(0, 9) = 7
            corner(5, 4) = 8
            corner(6, 4) = 9
            patch(0, 1, 0) = 0
            patch(2, 3, 2) = 1
            patch(5, 4, 2) = 2
            patch(6, 7, 2) = 3
            sight(0, 1) = 0
            sight(0, 2) = 1
            sight(0, 3) = 2
            on(0, 1, 2) = true
            own(1, 100) = true
            own(2, 100) = true
            own(3, 100) = true
            table(0, 1, 20) = true
            light(0) tells 10/1
            table(0, 2, 20) = true
            light(0) tells 20/1
            table(0, 3, 20) = true
            light(0) tells 30/1
            patch(8, 9, 0) = 4
            sight(0, 3) = 1
            light(0) tells 30/1
            bounce(0, 1) tells 30/1
            pull(0, 3) tells 1/10
            table(0, 3, 60) = true
            light(0) tells 50/1
            """);
    }

    private static void light() {
        says("""
            LIGHT: those numbers for all PATCHES of which each one is its OWN and ON times the sum of the
            others' (and its own), each times its share.
            """);
        shownBy(PromisesTest.class, "light", "table");
        lightOfThree();
        says("BOUNCE 0 is OWN; BOUNCE t + 1 is OWN and ON times the sum of BOUNCES t by shares.");
        shownBy(PromisesTest.class, "bounce");
        shownBy(BoundsTest.class, "bounceNumbers");
        lightFromOneToTheNext();
        says("PULL (i, j): the LIGHT of i, if the OWN of j were 1 and all others 0.");
        shownBy(PromisesTest.class, "pull");
        says("WANTED of a PATCH: 0 to 100,000 (0 at first).");
        shownBy(BoundsTest.class, "wantNumbers");
        shownBy(EmptyAndFullTest.class, "newPatches");
    }

    /** 8 = (8/4 + 20/2 + 16/4) / 2, and 20 = 14 + (8/2 + 16/2) / 2. */
    private static void lightOfThree() {
        Run.of("light of three", """
            corner(0, 0) = 0
            corner(0, 1) = 1
            corner(1, 0) = 2
            corner(1, 1) = 3
            corner(2, 0) = 4
            corner(2, 1) = 5
            patch(0, 1, 0) = 0
            patch(2, 3, 1) = 1
            patch(4, 5, 2) = 2
            parts(4) = true
            on(0, 1, 2) = true
            table(0, 0, 1) = true
            table(0, 1, 2) = true
            table(0, 2, 1) = true
            on(1, 1, 2) = true
            table(1, 0, 2) = true
            table(1, 2, 2) = true
            table(2, 0, 2) = true
            table(2, 1, 2) = true
            own(1, 14) = true
            own(2, 16) = true
            light(0) tells 8/1
            light(1) tells 20/1
            light(2) tells 16/1
            """);
    }

    private static final String CHAIN = Rooms.ALL_CORNERS + chain();

    /** A LAMP, and seven PLAIN ones, each of which has half of the light of the one before it. */
    private static String chain() {
        StringBuilder lines = new StringBuilder("patch(0, 1, 1) = 0\nown(0, 6400) = true\n");
        for (int p = 1; p < 8; p++) {
            lines.append("patch(" + 2 * p + ", " + (2 * p + 1) + ", 0) = " + p + "\n");
            lines.append("on(" + p + ", 1, 2) = true\ntable(" + p + ", " + (p - 1) + ", 100) = true\n");
        }
        return lines.toString();
    }

    private static void lightFromOneToTheNext() {
        Run.of("bounces from one to the next", CHAIN, """
            bounce(1, 0) tells 0/1
            bounce(1, 1) tells 3200/1
            bounce(1, 2) tells 3200/1
            bounce(3, 2) tells 0/1
            bounce(3, 3) tells 800/1
            bounce(6, 5) tells 0/1
            bounce(6, 6) tells 100/1
            bounce(7, 6) tells 0/1
            light(7) tells 50/1
            """);
    }

    private static void least() {
        says("""
            A LAMP has a PRICE (0 to 1,000; 1 at first) for each 1 of OWN, and a MOST (0 to 10,000; 10,000
            at first).
            """);
        shownBy(BoundsTest.class, "priceNumbers", "leastNumbers");
        shownBy(EmptyAndFullTest.class, "newPatches");
        says("""
            LEAST: OWNS of all LAMPS, fractions from 0 to MOST each, GAPS with the OWN they have, with which
            the LIGHT of each PATCH is WANTED or more, and which have the least PRICE together; of several
            the first: by LAMPS the least OWN of the first one in which they differ.
            """);
        shownBy(PromisesTest.class, "least", "leastOfSeveral");
        shownBy(BoundsTest.class, "leastNumbers", "leastTies");
        shownBy(EmptyAndFullTest.class, "noneOfLeast", "noneAfterSome");
        leastOfThreeLamps();
        says("(At most 3 LAMPS; PLAIN ones and GAPS as they are.)");
        shownBy(EmptyAndFullTest.class, "lastLamp", "fullObject");
        says("""
            FRACTIONS are told by OUT: a top (in tens, - ahead of it below 0), / , a bottom above 0, without
            a common divisor.
            """);
        shownBy(PromisesTest.class, "light", "pull");
        fractions();
    }

    /** With lamps a, b, c: 2a + b + c is 280 or more, a + 2b + c 320 or more, a + b + 2c 360 or more. */
    private static void leastOfThreeLamps() {
        String rows = """
            on(3, 1, 2) = true
            on(4, 1, 2) = true
            on(5, 1, 2) = true
            parts(4) = true
            table(3, 0, 2) = true
            table(3, 1, 1) = true
            table(3, 2, 1) = true
            table(4, 0, 1) = true
            table(4, 1, 2) = true
            table(4, 2, 1) = true
            table(5, 0, 1) = true
            table(5, 1, 1) = true
            table(5, 2, 2) = true
            want(3, 35) = true
            want(4, 40) = true
            want(5, 45) = true
            """;
        Run.of("three lamps for three wishes", Rooms.FULL, rows, """
            least() tells 240/1
            power(0) tells 40/1
            power(1) tells 80/1
            power(2) tells 120/1
            """);
        // As the third one may not go so far, the others have 160 together, of which the first has
        // the least that leaves the first wish 180.
        Run.of("three lamps, one of them weak", Rooms.FULL, rows, """
            price(2, 1, 100) = true
            least() tells 260/1
            power(0) tells 20/1
            power(1) tells 140/1
            power(2) tells 100/1
            """);
        Run.of("three lamps, one of them dear", Rooms.FULL, rows, """
            price(0, 9, 10000) = true
            least() tells 280/1
            power(0) tells 0/1
            power(1) tells 40/1
            power(2) tells 240/1
            """);
    }

    /** Each bounce puts four noughts and a 1 behind the last; nothing of it is left out or twice. */
    private static void fractions() {
        Run.of("fractions with noughts", Rooms.LONE_LAMP, """
            on(0, 1, 100) = true
            parts(1000) = true
            table(0, 0, 1) = true
            own(0, 1) = true
            bounce(0, 0) tells 1/1
            bounce(0, 1) tells 100001/100000
            bounce(0, 2) tells 10000100001/10000000000
            bounce(0, 6) tells 1000010000100001000010000100001/1000000000000000000000000000000
            light(0) tells 100000/99999
            own(0, 9999) = true
            light(0) tells 111100000/11111
            own(0, 0) = true
            light(0) tells 0/1
            """);
    }

    // ---- Terms: ==== 4.

    private static void statuses() {
        says("""
            ==== 4. STATUS of a call is the first of these that holds: 1 no such CORNER, PATCH. 2 a number
            that can't be. 3 one too many. 4 it is there already. 5 another KIND than is wanted, or a 4th
            LAMP. 6 SIGHT is not 2. 7 it would meet another PATCH. 8 there is none. 0 else.
            """);
        shownBy(StatusTest.class, "eachStatus", "cornerOrder", "patchOrder", "patchOrderWhenFull",
            "onAndOwnOrder", "wallsOrder", "lightOrder", "powerOrder", "latestCall", "allBrackets");
        says("With another STATUS than 0 a call gives NONE, or false, and changes nothing else.");
        shownBy(StatusTest.class, "eachStatus", "patchOrder");
        shownBy(EmptyAndFullTest.class, "lastCorner", "lastPatch", "lastLamp", "outUnderRefusedCalls");
        says("status(), out() have none.");
        shownBy(StatusTest.class, "latestCall");
    }

    private static void faceWords() {
        says("The constants: `NONE = -1`: None.");
        shownBy(PromisesTest.class, "newObject");
        says("""
            Ahead of the calls `corner`, `patch`, `on`, `own`, `told`, `sight`, `length`, `share`, `crossed`
            the interface says: ---- walls.
            Ahead of the calls `parts`, `table`, `light`, `bounce`, `pull`, `enough`, `want`, `price`,
            `least`, `power` the interface says: ---- light.
            """);
    }

    // ---- Promises 1 to 12

    private static void wallPromises() {
        says("`LightRoom()`: No CORNERS, no PATCHES; OUT is empty; STATUS 0.");
        shownBy(EmptyAndFullTest.class, "newObject", "objectsApart");
        says("`int status()`: STATUS of the latest call that has one.");
        shownBy(StatusTest.class, "latestCall");
        says("`int out(int k)`: Byte k of OUT; NONE if there is none such.");
        shownBy(PromisesTest.class, "outByBytes");
        shownBy(BoundsTest.class, "outNumbers");
        says("`int corner(int x, int y)`: A CORNER more: its number (2, 3, 4).");
        shownBy(StatusTest.class, "eachStatus", "cornerOrder");
        says("""
            `int patch(int from, int to, int kind)`: A PATCH more: its number (1: like CORNERS, too; 2:
            KIND; 3; 5; 7). ON is 0 by 1, OWN 0.
            """);
        shownBy(StatusTest.class, "patchOrder", "patchOrderWhenFull");
        shownBy(BoundsTest.class, "patchCorners");
        shownBy(EmptyAndFullTest.class, "newPatches");
        says("`boolean on(int patch, int n, int d)`: ON of a PATCH (1; 2; 5: of a GAP, if n is not 0).");
        shownBy(StatusTest.class, "onAndOwnOrder");
        shownBy(BoundsTest.class, "onNumbers");
        says("`boolean own(int patch, int light)`: OWN of a PATCH (1; 2; 5: of a PLAIN one, if it is not 0).");
        shownBy(StatusTest.class, "onAndOwnOrder");
        shownBy(BoundsTest.class, "ownNumbers");
        says("""
            `int told(int patch, int what)`: Of a PATCH, what 0: KIND, 1: its first CORNER, 2: its second,
            3: n of ON, 4: d, 5: OWN, 6: WANTED, 7: PRICE, 8: MOST (1, 2).
            """);
        shownBy(PromisesTest.class, "told");
        shownBy(StatusTest.class, "wallsOrder");
        toldOfOthersThanLamps();
        says("`int sight(int a, int b)`: SIGHT (1: like ones, too).");
        shownBy(PromisesTest.class, "sight");
        says("""
            `long length(int patch, int k, boolean up)`: LENGTH of a PATCH by 2 to the power k, UP or DOWN
            (1; 2).
            """);
        shownBy(BoundsTest.class, "lengthNumbers");
        says("`int share(int a, int b, int k, boolean high)`: SHARE, HIGH or LOW (1: like ones, too; 2; 6).");
        shownBy(BoundsTest.class, "shareNumbers", "shareRounding");
        shownBy(StatusTest.class, "wallsOrder");
        says("""
            `int crossed(int a, int b)`: Whether the sum of the crossed STRINGS is above (1), alike (0) or
            below (-1) that of the uncrossed ones, by LENGTHS DOWN for 2 to the power 20, alike if they
            differ by at most 4 (1: like ones, too). STATUS tells NONE from -1.
            """);
        shownBy(BoundsTest.class, "crossedDifferences", "crossedByDowns");
    }

    /** No STATUS is named for them but 1 and 2, so PLAIN ones and GAPS tell what all have at first. */
    private static void toldOfOthersThanLamps() {
        Run.of("price and most of a plain one and a gap", Rooms.SQUARE, """
            told(0, 7) = 1
            told(0, 8) = 10000
            told(3, 7) = 1
            told(3, 8) = 10000
            price(1, 5, 6) = true
            price(0, 7, 8) refused 5
            price(3, 7, 8) refused 5
            told(0, 7) = 1
            told(0, 8) = 10000
            told(3, 7) = 1
            told(3, 8) = 10000
            told(1, 7) = 5
            told(1, 8) = 6
            """);
    }

    // ---- Promises 13 to 22

    private static void lightPromises() {
        says("`boolean parts(int many)`: PARTS of the TABLE; all its numbers are 0 then (2).");
        shownBy(PromisesTest.class, "parts");
        shownBy(BoundsTest.class, "partsNumbers");
        partsLeaveAllElse();
        says("`boolean table(int i, int j, int part)`: TABLE (i, j) (1; 2: also together above PARTS).");
        shownBy(BoundsTest.class, "tableNumbers", "tableSums");
        shownBy(PromisesTest.class, "table", "power");
        shownBy(StatusTest.class, "lightOrder");
        says("`int light(int patch)`: OUT is the LIGHT of a PATCH: how many bytes (1).");
        shownBy(PromisesTest.class, "light");
        says("`int bounce(int patch, int t)`: OUT is BOUNCE t (0 to 6) of a PATCH (1, 2).");
        shownBy(BoundsTest.class, "bounceNumbers");
        shownBy(StatusTest.class, "lightOrder");
        says("`int pull(int i, int j)`: OUT is PULL (1).");
        shownBy(PromisesTest.class, "pull");
        says("""
            `int enough(int patch)`: How many BOUNCES (0 to 6) it takes until that of a PATCH is WANTED or
            more; 7 if none of these is, but LIGHT is above WANTED; 8 if LIGHT is just that (none is), 9 if
            it is below (1).
            """);
        shownBy(PromisesTest.class, "enough");
        shownBy(BoundsTest.class, "enoughNumbers", "enoughOfNothing");
        enoughFromOneToTheNext();
        says("`boolean want(int patch, int light)`: WANTED of a PATCH (1, 2).");
        shownBy(BoundsTest.class, "wantNumbers");
        says("`boolean price(int patch, int price, int most)`: PRICE and MOST of a LAMP (1; 2; 5).");
        shownBy(BoundsTest.class, "priceNumbers");
        shownBy(StatusTest.class, "lightOrder");
        mostBesideOwn();
        says("`int least()`: OUT is the PRICE of LEAST together: how many bytes (8).");
        shownBy(PromisesTest.class, "least");
        says("`int power(int patch)`: OUT is the OWN of a LAMP in LEAST (1; 5; 8).");
        shownBy(PromisesTest.class, "power");
        shownBy(StatusTest.class, "powerOrder");
        askingChangesNothing();
    }

    private static void partsLeaveAllElse() {
        Run.of("parts change the table alone", Rooms.FURNISHED, """
            parts(7) = true
            told(1, 3) = 1
            told(1, 4) = 4
            told(1, 5) = 30
            told(2, 6) = 7
            told(1, 7) = 3
            told(1, 8) = 900
            light(1) tells 30/1
            light(0) tells 0/1
            """);
    }

    /** The light comes to the 8th PATCH with the 7th bounce alone, and all of it at once. */
    private static void enoughFromOneToTheNext() {
        Run.of("enough from one to the next", CHAIN, """
            want(1, 3200) = true
            enough(1) = 1
            want(6, 100) = true
            enough(6) = 6
            want(6, 101) = true
            enough(6) = 9
            enough(7) = 0
            want(7, 49) = true
            enough(7) = 7
            want(7, 50) = true
            enough(7) = 8
            want(7, 51) = true
            enough(7) = 9
            """);
    }

    /** MOST is for LEAST alone: what is told as OWN may be above it, whichever of them is told first. */
    private static void mostBesideOwn() {
        Run.of("most beside own", Rooms.LONE_LAMP, """
            price(0, 4, 5) = true
            own(0, 6) = true
            light(0) tells 12/1
            own(0, 10000) = true
            price(0, 4, 3) = true
            told(0, 5) = 10000
            told(0, 8) = 3
            light(0) tells 20000/1
            want(0, 6) = true
            least() tells 12/1
            power(0) tells 3/1
            want(0, 7) = true
            enough(0) = 0
            least() refused 8
            """);
    }

    /** Calls that tell no new thing leave all that was told, LAMPS' OWN in LEAST too. */
    private static void askingChangesNothing() {
        Run.of("asking changes nothing", Rooms.FURNISHED, """
            least() tells 1247/5
            power(1) tells 1247/15
            told(1, 5) = 30
            light(0) tells 500/39
            bounce(1, 6) tells 40041/1280
            pull(0, 0) tells 40/39
            light(0) tells 500/39
            sight(0, 2) = 2
            share(0, 2, 3, true) = 4
            crossed(0, 2) = 1
            enough(2) = 9
            length(1, 2, true) = 40
            """, Rooms.STILL_FURNISHED);
    }

    // ---- Not promised

    private static void notPromised() {
        says("""
            How the state is held inside the object is free, as are the speed of each call, the text of
            toString and the behaviour of equals and hashCode. Use of one object from several threads at
            once is not promised to be safe. Nothing is promised beyond the answers and state changes
            described above, and nothing about an object after its 512th call.
            """);
    }
}
