import java.util.Set;
import java.util.TreeSet;

/**
 * Every STATUS that the document's brackets give a call, each by a run in which the call has it;
 * and where two could hold at once, that the first of them is told. That a refused call changes
 * nothing else is looked at by the runs themselves.
 */
public final class StatusTest {
    /** The brackets behind the promises. */
    private static final String[] BRACKETS = {
        "corner 2 3 4", "patch 1 2 3 5 7", "on 1 2 5", "own 1 2 5", "told 1 2", "sight 1", "length 1 2",
        "share 1 2 6", "crossed 1", "parts 2", "table 1 2", "light 1", "bounce 1 2", "pull 1", "enough 1",
        "want 1 2", "price 1 2 5", "least 8", "power 1 5 8"
    };

    public static void main(String[] args) {
        eachStatus();
        latestCall();
        cornerOrder();
        patchOrder();
        patchOrderWhenFull();
        onAndOwnOrder();
        wallsOrder();
        lightOrder();
        powerOrder();
        allBrackets();
        Run.end("status");
    }

    private static void furnished(String name, String script) {
        Run.of(name, Rooms.FURNISHED, script, Rooms.STILL_FURNISHED);
    }

    private static void allBrackets() {
        Set<String> due = new TreeSet<>();
        for (String bracket : BRACKETS) {
            String[] words = bracket.split(" ");
            for (int i = 1; i < words.length; i++) {
                due.add(words[0] + " " + words[i]);
            }
        }
        if (!due.equals(Run.refusals())) {
            Run.wrong("all brackets", "refused were " + Run.refusals() + ", due are " + due);
        }
    }

    private static void eachStatus() {
        furnished("walls, each status", """
            corner(1001, 0) refused 2
            corner(10, 10) refused 4
            patch(0, 4, 0) refused 1
            patch(0, 2, 3) refused 2
            patch(0, 1, 2) refused 7
            on(4, 1, 2) refused 1
            on(0, 2, 2) refused 2
            on(3, 1, 2) refused 5
            own(4, 1) refused 1
            own(1, 10001) refused 2
            own(2, 1) refused 5
            told(4, 0) refused 1
            told(0, 9) refused 2
            sight(1, 1) refused 1
            length(4, 0, true) refused 1
            length(0, 21, true) refused 2
            share(2, 2, 0, true) refused 1
            share(0, 2, 21, true) refused 2
            crossed(3, 3) refused 1
            """);
        furnished("light, each status", """
            parts(0) refused 2
            table(4, 0, 1) refused 1
            table(0, 0, 101) refused 2
            light(4) refused 1
            bounce(4, 0) refused 1
            bounce(0, 7) refused 2
            pull(0, 4) refused 1
            enough(4) refused 1
            want(4, 0) refused 1
            want(0, 100001) refused 2
            price(4, 1, 1) refused 1
            price(1, 1001, 1) refused 2
            price(0, 1, 1) refused 5
            power(4) refused 1
            power(0) refused 5
            """);
        Run.of("there is none", Rooms.FURNISHED, """
            price(1, 3, 83) = true
            least() refused 8
            power(1) refused 8
            """);
        Run.of("no whole sight", Rooms.FURNISHED, """
            patch(0, 2, 2) = 4
            share(0, 2, 0, true) refused 6
            """);
    }

    private static void latestCall() {
        Run.of("the latest call that has a status", """
            status() = 0
            out(0) = -1
            status() = 0
            corner(1001, 0) refused 2
            status() = 2
            status() = 2
            out(5) = -1
            out(MIN) = -1
            status() = 2
            corner(0, 0) = 0
            status() = 0
            corner(0, 0) refused 4
            status() = 4
            patch(0, 0, 0) refused 1
            status() = 1
            least() tells 0/1
            out(0) = 48
            status() = 0
            parts(0) refused 2
            status() = 2
            parts(7) = true
            status() = 0
            """);
    }

    private static void cornerOrder() {
        Run.of("corner, full", Rooms.ALL_CORNERS, """
            corner(500, 500) refused 3
            corner(0, 0) refused 3          // 4 would hold too
            corner(11, 1) refused 3         // 4 would hold too
            corner(1001, 500) refused 2     // 3 would hold too
            corner(500, MIN) refused 2      // 3 would hold too
            """);
    }

    private static void patchOrder() {
        furnished("patch, 1 ahead of 2 and 7", """
            patch(-1, 0, 3) refused 1       // 2 would hold too
            patch(0, 4, -1) refused 1       // 2 would hold too
            patch(0, 0, 3) refused 1        // 2 would hold too
            patch(MIN, MAX, MAX) refused 1  // 2 would hold too
            patch(0, 1, 3) refused 2        // 7 would hold too
            patch(1, 0, MIN) refused 2      // 7 would hold too
            """);
        Run.of("patch, 1 ahead of 7", Rooms.SQUARE, """
            corner(5, 0) = 4
            patch(4, 4, 0) refused 1        // that point is on a PATCH
            patch(0, 0, 0) refused 1
            patch(4, 2, 0) refused 7
            """);
        String threeLamps = """
            corner(0, 0) = 0
            corner(0, 9) = 1
            corner(1, 0) = 2
            corner(1, 9) = 3
            corner(2, 0) = 4
            corner(2, 9) = 5
            corner(3, 0) = 6
            corner(3, 9) = 7
            patch(0, 1, 1) = 0
            patch(2, 3, 1) = 1
            patch(4, 5, 1) = 2
            """;
        Run.of("patch, a 4th lamp", threeLamps, """
            patch(6, 7, 1) refused 5
            patch(6, 6, 1) refused 1        // 5 would hold too
            patch(6, 8, 1) refused 1        // 5 would hold too
            patch(6, 1, 1) refused 5        // 7 would hold too
            patch(0, 1, 1) refused 5        // 7 would hold too
            patch(6, 1, 0) refused 7
            patch(6, 1, 2) refused 7
            patch(6, 7, 3) refused 2
            patch(6, 7, 0) = 3
            """);
    }

    private static void patchOrderWhenFull() {
        Run.of("patch, full", Rooms.FULL, """
            patch(16, 17, 0) refused 3
            patch(16, 17, 2) refused 3
            patch(16, 17, 1) refused 3      // 5 would hold too
            patch(0, 1, 0) refused 3        // 7 would hold too
            patch(1, 0, 1) refused 3        // 5 and 7 would hold too
            patch(16, 17, 3) refused 2      // 3 would hold too
            patch(0, 1, -1) refused 2       // 3 and 7 would hold too
            patch(16, 24, 0) refused 1      // 3 would hold too
            patch(16, 16, 0) refused 1      // 3 would hold too
            patch(24, 24, 9) refused 1      // 2 and 3 would hold too
            patch(-1, 0, 1) refused 1       // 3 and 5 would hold too
            """);
    }

    private static void onAndOwnOrder() {
        furnished("on, 1 ahead of 2 ahead of 5", """
            on(4, 0, 0) refused 1           // 2 would hold too
            on(-1, 2, 2) refused 1          // 2 would hold too
            on(MIN, MAX, MIN) refused 1     // 2 would hold too
            on(3, 2, 2) refused 2           // 5 would hold too
            on(3, -1, 2) refused 2          // 5 would hold too
            on(3, 1, 0) refused 2           // 5 would hold too
            on(3, 1, 101) refused 2         // 5 would hold too
            on(3, MAX, MIN) refused 2       // 5 would hold too
            """);
        furnished("own, 1 ahead of 2 ahead of 5", """
            own(4, 10001) refused 1         // 2 would hold too
            own(-1, -1) refused 1           // 2 would hold too
            own(0, 10001) refused 2         // 5 would hold too
            own(2, -1) refused 2            // 5 would hold too
            own(2, MAX) refused 2           // 5 would hold too
            own(0, MIN) refused 2           // 5 would hold too
            """);
    }

    private static void wallsOrder() {
        furnished("told and length, 1 ahead of 2", """
            told(4, 9) refused 1            // 2 would hold too
            told(-1, -1) refused 1          // 2 would hold too
            length(4, 21, true) refused 1   // 2 would hold too
            length(-1, -1, false) refused 1 // 2 would hold too
            """);
        Run.of("share, 1 ahead of 2 ahead of 6", Rooms.FURNISHED, """
            patch(0, 2, 0) = 4
            share(0, 2, 20, true) refused 6
            share(2, 0, 0, false) refused 6
            share(4, 0, 0, false) refused 6
            share(0, 2, 21, true) refused 2  // 6 would hold too
            share(4, 0, -1, false) refused 2 // 6 would hold too
            share(0, 0, 21, true) refused 1  // 2 would hold too
            share(0, 0, 5, true) refused 1
            share(0, 5, 21, true) refused 1  // 2 would hold too
            share(-1, 0, -1, true) refused 1 // 2 would hold too
            """);
    }

    private static void lightOrder() {
        furnished("table, 1 ahead of 2", """
            table(4, 0, -1) refused 1       // 2 would hold too
            table(0, 4, 101) refused 1      // 2 would hold too
            table(-1, -1, MAX) refused 1    // 2 would hold too
            table(0, MAX, 26) refused 1     // 2 would hold too
            """);
        furnished("bounce, want and price, 1 ahead of 2", """
            bounce(4, 7) refused 1          // 2 would hold too
            bounce(-1, -1) refused 1        // 2 would hold too
            want(4, 100001) refused 1       // 2 would hold too
            want(-1, -1) refused 1          // 2 would hold too
            price(4, 1001, 1) refused 1     // 2 would hold too
            price(-1, 1, -1) refused 1      // 2 would hold too
            """);
        furnished("price, 2 ahead of 5", """
            price(0, 1001, 1) refused 2     // 5 would hold too
            price(0, -1, 1) refused 2       // 5 would hold too
            price(3, 1, 10001) refused 2    // 5 would hold too
            price(3, 1, -1) refused 2       // 5 would hold too
            price(2, MIN, MAX) refused 2    // 5 would hold too
            price(0, 1, 1) refused 5
            price(3, 1, 1) refused 5
            """);
    }

    private static void powerOrder() {
        Run.of("power, 1 ahead of 5 ahead of 8", Rooms.FURNISHED, """
            power(0) refused 5
            power(3) refused 5
            power(4) refused 1
            price(1, 3, 83) = true
            least() refused 8
            power(0) refused 5              // 8 would hold too
            power(3) refused 5              // 8 would hold too
            power(4) refused 1              // 8 would hold too
            power(-1) refused 1             // 8 would hold too
            power(1) refused 8
            price(1, 3, 84) = true
            power(1) tells 1247/15
            least() tells 1247/5
            """);
    }
}
