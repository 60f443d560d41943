import java.lang.reflect.Method;
import java.util.ArrayList;
import java.util.Arrays;
import java.util.List;
import java.util.Set;
import java.util.TreeSet;
import java.util.regex.Matcher;
import java.util.regex.Pattern;

/**
 * A run of calls on a new object, written as text, a call a line:
 *
 * <pre>
 *   corner(0, 0) = 0          // the answer, with STATUS 0
 *   light(0) tells 20/1       // OUT, and how many bytes it has, with STATUS 0
 *   corner(0, 0) refused 4    // NONE or false, with that STATUS, and nothing else changed
 * </pre>
 *
 * MIN and MAX are the least and the greatest int. What is due must be what the model answers too.
 * A refused call is looked through by twins: two more objects that have the run behind them, one
 * without any of its refused calls, must answer alike to all that can be asked.
 */
final class Run {
    /** The document frees all answers after so many calls of an object. */
    static final int MOST_CALLS = 512;
    private static final Pattern LINE = Pattern.compile("(\\w+)\\(([^)]*)\\) (=|tells|refused) (\\S+)");
    private static final Set<String> refusals = new TreeSet<>();
    private static int wrong = 0;
    private static int checked = 0;

    private final String name;
    private final LightRoom room = new LightRoom();
    private final Model model = new Model();
    private final List<Call> before = new ArrayList<>();
    private final List<Call> effective = new ArrayList<>();
    private int status = 0;
    private String out = "";
    private int calls = 0;

    private Run(String name) {
        this.name = name;
    }

    static void of(String name, String... scripts) {
        Run run = new Run(name);
        int wrongBefore = wrong;
        for (String line : String.join("\n", scripts).split("\n")) {
            String bare = line.replaceAll("//.*", "").trim();
            // What comes after a wrong answer says nothing more.
            if (!bare.isEmpty() && wrong == wrongBefore) {
                run.line(bare);
            }
        }
        if (run.calls > MOST_CALLS) {
            wrong(name, "has more calls than the document answers for: " + run.calls);
        }
    }

    /** Which calls were refused with which STATUS in all runs, each as "corner 2". */
    static Set<String> refusals() {
        return refusals;
    }

    static void end(String whole) {
        System.out.println(whole + ": " + checked + " calls made, " + wrong + " answers are not as due");
        if (wrong != 0 || checked == 0) {
            System.exit(1);
        }
    }

    static void wrong(String name, String what) {
        wrong++;
        System.out.println("run " + name + ": " + what);
    }

    private void line(String line) {
        Matcher found = LINE.matcher(line);
        if (!found.matches()) {
            throw new IllegalArgumentException("not a line of a run: " + line);
        }
        Call call = Call.read(found.group(1), found.group(2));
        String due = found.group(4);
        switch (found.group(3)) {
            case "tells" -> tells(call, due);
            case "refused" -> refused(call, Integer.parseInt(due));
            default -> answers(call, due.equals("true") ? 1 : due.equals("false") ? 0 : Long.parseLong(due));
        }
        checked++;
    }

    private void answers(Call call, long due) {
        status = call.hasStatus() ? 0 : status;
        make(call, due);
        effective.add(call);
    }

    private void tells(Call call, String due) {
        status = 0;
        out = due;
        make(call, due.length());
        effective.add(call);
    }

    private void refused(Call call, int due) {
        status = due;
        make(call, call.method.getReturnType() == boolean.class ? 0 : LightRoom.NONE);
        refusals.add(call.method.getName() + " " + due);
        for (Probe probe : Probe.values()) {
            Twins twins = new Twins(before, effective);
            probe.ask(twins);
            if (!twins.difference.isEmpty()) {
                wrong(name, call + " changed what it may not: " + twins.difference);
            }
        }
    }

    private void make(Call call, long due) {
        same(call + ", of the model", call.on(model), due);
        same(call + ", its STATUS of the model", model.status(), status);
        same(call.toString(), call.on(room), due);
        same(call + ", its STATUS", room.status(), status);
        String seen = text(room);
        if (!seen.equals(out)) {
            wrong(name, call + " leaves OUT as " + seen + ", due is " + out);
        }
        same(call + ", STATUS after OUT", room.status(), status);
        calls += 4 + seen.length();
        before.add(call);
    }

    private void same(String what, long got, long due) {
        if (got != due) {
            wrong(name, what + " answered " + got + ", due is " + due);
        }
    }

    static String text(LightRoom room) {
        StringBuilder text = new StringBuilder();
        int next = room.out(0);
        for (int k = 1; k < MOST_CALLS && next != LightRoom.NONE; k++) {
            text.append((char) next);
            next = room.out(k);
        }
        return text.toString();
    }

    /** One call of the face with its arguments. */
    private record Call(Method method, Object[] arguments) {
        static Call read(String name, String list) {
            String[] words = list.isBlank() ? new String[0] : list.split(", ");
            for (Method method : LightRoom.class.getDeclaredMethods()) {
                if (method.getName().equals(name) && method.getParameterCount() == words.length) {
                    return new Call(method, Arrays.stream(words).map(Call::argument).toArray());
                }
            }
            throw new IllegalArgumentException("no call " + name + " of " + words.length);
        }

        private static Object argument(String word) {
            return switch (word) {
                case "MIN" -> Integer.MIN_VALUE;
                case "MAX" -> Integer.MAX_VALUE;
                case "true" -> true;
                case "false" -> false;
                default -> Integer.valueOf(word);
            };
        }

        boolean hasStatus() {
            return !method.getName().equals("status") && !method.getName().equals("out");
        }

        long on(LightRoom room) {
            return made(method, room);
        }

        long on(Model model) {
            try {
                return made(Model.class.getDeclaredMethod(method.getName(), method.getParameterTypes()), model);
            } catch (NoSuchMethodException missing) {
                throw new IllegalStateException(missing);
            }
        }

        private long made(Method of, Object object) {
            try {
                Object answer = of.invoke(object, arguments);
                return answer instanceof Boolean b ? (b ? 1 : 0) : ((Number) answer).longValue();
            } catch (ReflectiveOperationException thrown) {
                throw new IllegalStateException(this + " throws", thrown);
            }
        }

        @Override
        public String toString() {
            return method.getName() + Arrays.toString(arguments).replace('[', '(').replace(']', ')');
        }
    }

    /** Two objects of which one has had the refused calls too; both are asked the same. */
    private static final class Twins {
        private final LightRoom with = new LightRoom();
        private final LightRoom without = new LightRoom();
        private int calls;
        String difference = "";

        Twins(List<Call> all, List<Call> effective) {
            all.forEach(call -> call.on(with));
            effective.forEach(call -> call.on(without));
            calls = all.size();
        }

        /** The answer of the one without, or NONE once the twins have had their calls. */
        long ask(String name, Object... arguments) {
            calls += 2;
            if (calls > MOST_CALLS) {
                return LightRoom.NONE;
            }
            Call call = Call.read(name, String.join(", ", Arrays.stream(arguments).map(String::valueOf).toList()));
            long due = call.on(without);
            compare(call.toString(), call.on(with), due);
            if (call.hasStatus()) {
                compare(call + ", its STATUS", with.status(), without.status());
            }
            return due;
        }

        void askOut() {
            for (int k = 0; ask("out", k) != LightRoom.NONE; k++) {
                // All bytes up to the first that isn't there.
            }
        }

        int patches() {
            int many = 0;
            while (many < 8 && ask("told", many, 0) != LightRoom.NONE) {
                many++;
            }
            return many;
        }

        private void compare(String what, long got, long due) {
            if (got != due && difference.isEmpty()) {
                difference = what + " answers " + got + ", without the refused calls " + due;
            }
        }
    }

    /** What is asked of twins, in parts that an object's calls are enough for. */
    private enum Probe {
        FACTS, SIGHTS, STRINGS, MORE_WALLS, MORE_LAMPS, LIGHTS, LAMPS, TABLE, PARTS_LEFT, LAST_PARTS_LEFT;

        void ask(Twins twins) {
            twins.askOut();
            int patches = twins.patches();
            switch (this) {
                case FACTS -> askFacts(twins, patches);
                case SIGHTS -> askSights(twins, patches);
                case STRINGS -> askStrings(twins, patches);
                case MORE_WALLS -> askMoreWalls(twins);
                case MORE_LAMPS -> askMoreLamps(twins);
                case LIGHTS -> askLights(twins, patches);
                case LAMPS -> askLamps(twins, patches);
                case TABLE -> askTable(twins, patches);
                case PARTS_LEFT -> askPartsLeft(twins, patches, 0);
                default -> askPartsLeft(twins, patches, patches - 1);
            }
        }

        private static void askFacts(Twins twins, int patches) {
            for (int p = 0; p <= patches; p++) {
                for (int what = 0; what < 9; what++) {
                    twins.ask("told", p, what);
                }
                twins.ask("enough", p);
            }
        }

        private static void askSights(Twins twins, int patches) {
            for (int a = 0; a <= patches; a++) {
                for (int b = 0; b < a; b++) {
                    twins.ask("sight", a, b);
                    twins.ask("share", a, b, 20, true);
                }
            }
        }

        private static void askStrings(Twins twins, int patches) {
            for (int a = 0; a <= patches; a++) {
                twins.ask("length", a, 20, true);
                for (int b = 0; b < a; b++) {
                    twins.ask("crossed", a, b);
                }
            }
        }

        /** The numbers of the next corners and patches tell how many there were, and where. */
        private static void askMoreWalls(Twins twins) {
            twins.ask("corner", 777, -778);
            twins.ask("corner", 0, 0);
            for (int from = 0; from < 24; from++) {
                twins.ask("patch", from, from + 1, 1);
                twins.ask("patch", from, (from + 5) % 24, 0);
            }
            twins.ask("corner", 777, -779);
        }

        /** Far from all that the runs have, so that nothing but their number can refuse them. */
        private static void askMoreLamps(Twins twins) {
            for (int x = 900; x < 904; x++) {
                long from = twins.ask("corner", x, -900);
                long to = twins.ask("corner", x, -901);
                twins.ask("patch", from, to, 1);
            }
        }

        private static void askLights(Twins twins, int patches) {
            for (int p = 0; p <= patches; p++) {
                twins.ask("light", p);
                twins.askOut();
                twins.ask("bounce", p, 2);
            }
        }

        private static void askLamps(Twins twins, int patches) {
            twins.ask("least");
            twins.askOut();
            for (int p = 0; p <= patches; p++) {
                twins.ask("power", p);
                twins.askOut();
                twins.ask("want", p, 1);
                twins.ask("least");
                twins.askOut();
            }
        }

        /** With something given on everywhere every number of the table is seen. */
        private static void askTable(Twins twins, int patches) {
            for (int p = 0; p < patches; p++) {
                twins.ask("on", p, 1, 2);
            }
            for (int i = 0; i < patches; i++) {
                for (int j = 0; j < patches; j++) {
                    twins.ask("pull", i, j);
                    if (patches < 6) {
                        twins.askOut();
                    }
                }
            }
        }

        /**
         * How much room a row has for one place tells of all its other places, of a GAP's row too,
         * and of the number of PARTS.
         */
        private static void askPartsLeft(Twins twins, int patches, int place) {
            for (int i = 0; i < patches; i++) {
                int fits = 0;
                for (int more = 512; more > 0; more /= 2) {
                    fits += twins.ask("table", i, place, fits + more) == 1 ? more : 0;
                }
            }
        }
    }
}
