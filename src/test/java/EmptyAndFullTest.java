/** A new object, objects with nothing more to be had, and OUT before, at and past its bytes. */
public final class EmptyAndFullTest {
    public static void main(String[] args) {
        newObject();
        newPatches();
        objectsApart();
        lastCorner();
        lastPatch();
        lastLamp();
        fullObject();
        fullTable();
        noneOfLeast();
        noneAfterSome();
        outBeforeAndAfter();
        outUnderRefusedCalls();
        lastCall();
        Run.end("empty and full");
    }

    private static void newObject() {
        Run.of("a new object's walls", """
            status() = 0
            out(0) = -1
            out(-1) = -1
            out(MAX) = -1
            patch(0, 1, 0) refused 1
            patch(0, 0, 0) refused 1
            on(0, 0, 1) refused 1
            own(0, 0) refused 1
            told(0, 0) refused 1
            sight(0, 1) refused 1
            sight(0, 0) refused 1
            length(0, 0, true) refused 1
            share(0, 1, 0, false) refused 1
            crossed(0, 1) refused 1
            corner(0, 0) = 0
            patch(0, 0, 0) refused 1
            patch(0, 1, 0) refused 1
            """);
        Run.of("a new object's light", """
            table(0, 0, 0) refused 1
            light(0) refused 1
            bounce(0, 0) refused 1
            pull(0, 0) refused 1
            enough(0) refused 1
            want(0, 0) refused 1
            price(0, 0, 0) refused 1
            power(0) refused 1
            out(0) = -1
            least() tells 0/1
            out(0) = 48
            out(1) = 47
            out(2) = 49
            out(3) = -1
            parts(5) = true
            light(0) refused 1
            least() tells 0/1
            """);
        Run.of("corners alone", Rooms.ALL_CORNERS, """
            told(0, 0) refused 1
            light(0) refused 1
            least() tells 0/1
            """);
    }

    /** A PATCH's numbers before any was told, and a TABLE of 100 PARTS that is empty. */
    private static void newPatches() {
        Run.of("new patches", Rooms.SQUARE, """
            told(0, 0) = 0
            told(0, 3) = 0
            told(0, 4) = 1
            told(0, 5) = 0
            told(0, 6) = 0
            told(1, 0) = 1
            told(1, 3) = 0
            told(1, 4) = 1
            told(1, 5) = 0
            told(1, 6) = 0
            told(1, 7) = 1
            told(1, 8) = 10000
            told(3, 0) = 2
            told(3, 3) = 0
            told(3, 4) = 1
            told(3, 5) = 0
            told(3, 6) = 0
            light(0) tells 0/1
            light(1) tells 0/1
            bounce(1, 6) tells 0/1
            pull(0, 1) tells 0/1
            pull(1, 1) tells 1/1
            enough(0) = 0
            least() tells 0/1
            power(1) tells 0/1
            """);
        Run.of("an empty table of 100 parts", Rooms.SQUARE, """
            on(0, 1, 2) = true
            own(1, 8) = true
            light(0) tells 0/1
            bounce(0, 6) tells 0/1
            table(0, 1, 101) refused 2
            table(0, 1, 100) = true
            light(0) tells 4/1
            parts(100) = true
            light(0) tells 0/1
            table(0, 1, 100) = true
            light(0) tells 4/1
            """);
        Run.of("a patch more, beside told ones", Rooms.FURNISHED, """
            patch(0, 2, 0) = 4
            light(4) tells 0/1
            pull(4, 4) tells 1/1
            pull(4, 1) tells 0/1
            pull(0, 4) tells 0/1
            on(4, 1, 2) = true
            table(4, 3, 100) = true
            light(4) tells 20/1
            light(0) tells 500/39
            """);
    }

    private static void objectsApart() {
        Run.of("an object", Rooms.FURNISHED);
        Run.of("another object after it", "out(0) = -1", "status() = 0", "corner(0, 0) = 0", "told(0, 0) refused 1");
    }

    private static void lastCorner() {
        Run.of("the 24th corner and one more", Rooms.ALL_CORNERS, """
            corner(12, 0) refused 3
            corner(12, 1) refused 3
            corner(-1000, 1000) refused 3
            corner(11, 1) refused 3
            patch(22, 23, 0) = 0
            patch(23, 24, 0) refused 1
            corner(12, 0) refused 3
            told(0, 2) = 23
            length(0, 0, true) = 1
            """);
    }

    private static void lastPatch() {
        Run.of("the 8th patch and one more", Rooms.ALL_CORNERS, """
            patch(1, 0, 0) = 0
            patch(2, 3, 0) = 1
            patch(4, 5, 0) = 2
            patch(6, 7, 2) = 3
            patch(8, 9, 2) = 4
            patch(10, 11, 2) = 5
            patch(12, 13, 2) = 6
            patch(14, 15, 1) = 7
            patch(16, 17, 0) refused 3
            patch(16, 17, 1) refused 3
            patch(16, 17, 2) refused 3
            told(7, 0) = 1
            told(7, 1) = 14
            told(8, 0) refused 1
            sight(0, 1) = 2
            sight(0, 7) = 1
            sight(7, 0) = 1
            sight(1, 7) = 0
            corner(500, 500) refused 3
            """);
    }

    private static void lastLamp() {
        Run.of("the 3rd lamp and a 4th", Rooms.ALL_CORNERS, """
            patch(0, 1, 1) = 0
            patch(2, 3, 0) = 1
            patch(4, 5, 1) = 2
            patch(6, 7, 2) = 3
            patch(8, 9, 1) = 4
            patch(10, 11, 1) refused 5
            told(5, 0) refused 1
            patch(10, 11, 0) = 5
            patch(12, 13, 1) refused 5
            patch(12, 13, 2) = 6
            patch(14, 15, 1) refused 5
            patch(14, 15, 0) = 7
            patch(16, 17, 1) refused 3
            price(4, 2, 5) = true
            want(4, 5) = true
            least() tells 10/1
            power(4) tells 5/1
            power(5) refused 5
            """);
    }

    /** All that there can be, and each LAMP with another share of what one PATCH wants. */
    private static void fullObject() {
        Run.of("a full object", Rooms.FULL, """
            on(5, 1, 2) = true
            table(5, 0, 10) = true
            table(5, 1, 20) = true
            table(5, 2, 40) = true
            table(5, 7, 30) = true
            own(7, 100) = true
            want(5, 40) = true
            light(5) tells 15/1
            least() tells 125/1
            power(2) tells 125/1
            price(2, 1, 100) = true
            power(2) tells 100/1
            power(1) tells 50/1
            price(1, 1, 40) = true
            power(0) tells 20/1
            power(1) tells 40/1
            price(0, 1, 19) = true
            least() refused 8
            price(0, 1, 20) = true
            least() tells 160/1
            sight(7, 0) = 0
            length(7, 20, true) = 1048576
            """);
    }

    private static void fullTable() {
        StringBuilder rows = new StringBuilder("parts(8) = true\n");
        for (int i = 0; i < 2; i++) {
            for (int j = 0; j < 8; j++) {
                rows.append("table(" + i + ", " + j + ", 1) = true\n");
            }
        }
        Run.of("full rows of the table", Rooms.FULL, rows.toString(), """
            table(0, 0, 2) refused 2
            table(1, 7, 2) refused 2
            table(0, 7, 0) = true
            table(0, 0, 2) = true
            table(0, 7, 1) refused 2
            table(2, 7, 8) = true
            table(2, 7, 9) refused 2
            """);
    }

    private static void noneOfLeast() {
        Run.of("none without a lamp", """
            corner(0, 0) = 0
            corner(1, 0) = 1
            patch(0, 1, 0) = 0
            least() tells 0/1
            want(0, 1) = true
            least() refused 8
            power(0) refused 5
            want(0, 0) = true
            least() tells 0/1
            """);
        Run.of("none where no light comes", Rooms.SQUARE, """
            want(0, 1) = true
            least() refused 8
            table(0, 1, 100) = true
            least() refused 8
            on(0, 1, 100) = true
            least() tells 100/1
            on(0, 0, 100) = true
            least() refused 8
            power(1) refused 8
            """);
        Run.of("none where nothing may be lit", Rooms.SQUARE, """
            price(1, 0, 0) = true
            least() tells 0/1
            power(1) tells 0/1
            want(1, 1) = true
            least() refused 8
            power(1) refused 8
            price(1, 0, 1) = true
            least() tells 0/1
            power(1) tells 1/1
            """);
    }

    private static void noneAfterSome() {
        Run.of("a least that there is no more", Rooms.FURNISHED, """
            least() tells 1247/5
            table(2, 0, 0) = true
            least() refused 8
            power(1) refused 8
            table(2, 0, 30) = true
            least() tells 1247/5
            want(3, 41) = true
            least() refused 8
            want(3, 40) = true
            least() tells 1247/5
            own(3, 39) = true
            least() refused 8
            own(3, 40) = true
            power(1) tells 1247/15
            on(0, 0, 2) = true
            least() refused 8
            on(0, 1, 2) = true
            power(1) tells 1247/15
            parts(100) = true
            least() refused 8
            want(0, 0) = true
            want(2, 0) = true
            least() tells 0/1
            """);
    }

    private static void outBeforeAndAfter() {
        Run.of("out by its bytes", Rooms.FURNISHED, """
            light(1) tells 1220/39
            out(0) = 49
            out(6) = 57
            out(7) = -1
            bounce(0, 0) tells 0/1
            out(2) = 49
            out(3) = -1
            out(6) = -1
            out(MAX) = -1
            out(MIN) = -1
            own(1, 31) = true
            sight(0, 2) = 2
            crossed(0, 2) = 1
            enough(0) = 1
            told(1, 5) = 31
            parts(9) = true
            out(0) = 48
            out(3) = -1
            """);
    }

    private static void outUnderRefusedCalls() {
        Run.of("out stays under refused calls", Rooms.FURNISHED, """
            price(1, 3, 83) = true
            light(4) refused 1
            bounce(4, 0) refused 1
            bounce(0, 7) refused 2
            pull(4, 0) refused 1
            pull(0, 4) refused 1
            least() refused 8
            power(1) refused 8
            power(0) refused 5
            power(4) refused 1
            out(0) = 53
            out(5) = 57
            out(6) = -1
            """);
    }

    /** An object's last call that the document answers for. */
    private static void lastCall() {
        LightRoom room = new LightRoom();
        room.corner(0, 0);
        room.corner(3, 4);
        room.patch(0, 1, 1);
        for (int calls = 3; calls < Run.MOST_CALLS - 2; calls++) {
            room.own(0, calls);
        }
        long size = room.light(0);
        int last = room.out(2);
        if (size != 5 || last != '9') {
            Run.wrong("the 512th call", "light answered " + size + " and out " + last + ", due are 5 and 57");
        }
    }
}
