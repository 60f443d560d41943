/** Beginnings that runs have in common. */
final class Rooms {
    /** A square of side 10, seen sides in: PLAIN, LAMP, PLAIN, GAP. */
    static final String SQUARE = """
        corner(0, 0) = 0
        corner(10, 0) = 1
        corner(10, 10) = 2
        corner(0, 10) = 3
        patch(0, 1, 0) = 0
        patch(1, 2, 1) = 1
        patch(2, 3, 0) = 2
        patch(3, 0, 2) = 3
        """;

    /** The square with no number of it as it was at first, and with an OUT. */
    static final String FURNISHED = SQUARE + """
        on(0, 1, 2) = true
        on(1, 1, 4) = true
        on(2, 3, 4) = true
        on(3, 0, 5) = true
        own(1, 30) = true
        own(3, 40) = true
        want(0, 3) = true
        want(2, 7) = true
        price(1, 3, 900) = true
        table(0, 1, 50) = true
        table(0, 3, 25) = true
        table(1, 0, 40) = true
        table(2, 0, 30) = true
        table(2, 2, 20) = true
        table(3, 1, 60) = true
        light(0) tells 500/39
        """;

    /** The furnished square as it must still be after refused calls. */
    static final String STILL_FURNISHED = """
        light(0) tells 500/39
        light(1) tells 1220/39
        light(2) tells 750/221
        light(3) tells 40/1
        least() tells 1247/5
        power(1) tells 1247/15
        """;

    /** A LAMP of which all light comes back to itself, by half: twice its OWN after all bounces. */
    static final String LONE_LAMP = """
        corner(0, 0) = 0
        corner(1, 0) = 1
        patch(0, 1, 1) = 0
        on(0, 1, 2) = true
        table(0, 0, 100) = true
        """;

    /** 24 CORNERS, (0, 0), (0, 1), (1, 0), (1, 1) and so on, and no PATCH. */
    static final String ALL_CORNERS = allCorners();

    /** All CORNERS, and 8 PATCHES side by side: three LAMPS, three PLAIN ones, two GAPS. */
    static final String FULL = ALL_CORNERS + """
        patch(0, 1, 1) = 0
        patch(2, 3, 1) = 1
        patch(4, 5, 1) = 2
        patch(6, 7, 0) = 3
        patch(8, 9, 0) = 4
        patch(10, 11, 0) = 5
        patch(12, 13, 2) = 6
        patch(14, 15, 2) = 7
        """;

    private Rooms() {
    }

    private static String allCorners() {
        StringBuilder lines = new StringBuilder();
        for (int number = 0; number < 24; number++) {
            lines.append("corner(" + number / 2 + ", " + number % 2 + ") = " + number + "\n");
        }
        return lines.toString();
    }
}
