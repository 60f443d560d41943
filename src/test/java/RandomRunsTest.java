import java.util.Random;

/**
 * Runs of calls drawn from fixed seeds, each answer, STATUS and OUT held against the model's. OUT
 * takes a call a byte, so these objects get more calls than the document answers for; the class
 * has no such limit.
 */
public final class RandomRunsTest {
    private static int wrong = 0;
    private static final int[] EDGES = {
        Integer.MIN_VALUE, -1001, -1000, -1, 0, 1, 2, 3, 6, 7, 8, 9, 20, 21, 23, 24, 99, 100, 101,
        999, 1000, 1001, 9999, 10000, 10001, 99999, 100000, 100001, Integer.MAX_VALUE
    };

    private final Random random;
    private final LightRoom room = new LightRoom();
    private final Model model = new Model();
    private final StringBuilder calls = new StringBuilder();
    private final int reach;
    private int made;

    private RandomRunsTest(long seed, int reach) {
        random = new Random(seed);
        this.reach = reach;
    }

    public static void main(String[] args) {
        for (int seed = 0; seed < 1500; seed++) {
            new RandomRunsTest(seed, 2 + seed % 3).walls(120);
        }
        for (int seed = 0; seed < 500; seed++) {
            new RandomRunsTest(seed, seed % 2 == 0 ? 30 : 1000).walls(120);
        }
        for (int seed = 0; seed < 700; seed++) {
            new RandomRunsTest(seed, 1000).lights(60);
        }
        for (int seed = 0; seed < 300; seed++) {
            new RandomRunsTest(seed, 3).anything(200);
        }
        for (int seed = 0; seed < 12; seed++) {
            new RandomRunsTest(seed, 1000).bright(seed % 2 == 0);
        }
        for (int seed = 0; seed < 600; seed++) {
            new RandomRunsTest(seed, 1000).round();
        }
        for (int seed = 0; seed < 400; seed++) {
            new RandomRunsTest(seed, 1000).noughts();
        }
        System.out.println(wrong == 0 ? "all random runs agree" : wrong + " answers differ");
        if (wrong != 0) {
            System.exit(1);
        }
    }

    private int below(int bound) {
        return random.nextInt(bound);
    }

    private int from(int least, int most) {
        return least + below(most - least + 1);
    }

    private int edge() {
        return EDGES[below(EDGES.length)];
    }

    private int mostly(int usual) {
        return below(40) == 0 ? edge() : usual;
    }

    private void walls(int many) {
        for (int i = 0; i < many; i++) {
            int which = below(10);
            call(which < 3 && i < 30 ? 0 : which < 6 && i < 60 ? 1 : 4 + below(5));
        }
    }

    private void lights(int many) {
        int patches = from(1, 8);
        for (int p = 0; p < patches; p++) {
            same("corner", room.corner(p, 0), model.corner(p, 0));
            same("corner", room.corner(p, 5), model.corner(p, 5));
            int kind = below(3);
            same("patch " + kind, room.patch(2 * p, 2 * p + 1, kind), model.patch(2 * p, 2 * p + 1, kind));
        }
        made = patches;
        if (below(3) > 0) {
            int parts = below(2) == 0 ? from(1, 1000) : 1000;
            same("parts " + parts, room.parts(parts), model.parts(parts));
        }
        for (int i = 0; i < 3 * patches; i++) {
            call(2 + below(2));
            call(10);
            call(10);
        }
        for (int i = 0; i < many; i++) {
            int which = below(20);
            call(which < 3 ? 2 : which < 5 ? 3 : which < 8 ? 10 : 11 + below(8));
        }
    }

    /** Eight patches that give on nearly all that comes, so that all numbers get long. */
    private void bright(boolean longest) {
        int[] kinds = {1, 0, 1, 2, 0, 1, 0, 2};
        int[] bottoms = {100, 99, 97, 91, 89, 83, 79, 73};
        layPatches(kinds);
        int parts = longest ? 1000 - below(4) : from(900, 1000);
        same("parts " + parts, room.parts(parts), model.parts(parts));
        for (int p = 0; p < 8; p++) {
            int d = bottoms[p];
            int n = kinds[p] == 2 ? 0 : d - 1 - below(longest ? 1 : 5);
            same("on " + p + " " + n + " " + d, room.on(p, n, d), model.on(p, n, d));
            int own = kinds[p] == 0 ? 0 : from(9000, 10000);
            same("own " + p + " " + own, room.own(p, own), model.own(p, own));
            fillRow(p, parts);
            wantNear(p);
        }
        for (int i = 0; i < 25; i++) {
            call(11 + below(4));
            leastForWants();
        }
    }

    private void leastForWants() {
        int p = below(8);
        int light = below(3) == 0 ? below(100001) : below(3000);
        same("want " + p + " " + light, room.want(p, light), model.want(p, light));
        int lamp = below(6);
        int price = below(4) == 0 ? 1000 : below(1001);
        same("price " + lamp + " " + price, room.price(lamp, price, 10000), model.price(lamp, price, 10000));
        same("least", room.least(), model.least());
        same("power " + lamp, room.power(lamp), model.power(lamp));
    }

    private void fillRow(int p, int parts) {
        int left = parts;
        for (int j = 0; j < 8; j++) {
            int part = j == 7 ? left : below(1 + left * 2 / (8 - j));
            part = Math.min(part, left);
            same("table " + p + " " + j + " " + part, room.table(p, j, part), model.table(p, j, part));
            left -= part;
        }
    }

    private void layPatches(int[] kinds) {
        for (int p = 0; p < kinds.length; p++) {
            same("corner", room.corner(p, 0), model.corner(p, 0));
            same("corner", room.corner(p, 5), model.corner(p, 5));
            same("patch " + kinds[p], room.patch(2 * p, 2 * p + 1, kinds[p]), model.patch(2 * p, 2 * p + 1, kinds[p]));
        }
        made = kinds.length;
    }

    /** WANTED at the light of all bounces or of some, or 1 beside it. */
    private void wantNear(int p) {
        int t = below(9);
        same("light " + p, t > 6 ? room.light(p) : room.bounce(p, t), t > 6 ? model.light(p) : model.bounce(p, t));
        String[] fraction = text(model).split("/");
        int near = new java.math.BigInteger(fraction[0]).divide(new java.math.BigInteger(fraction[1])).intValueExact();
        int light = near + from(-1, 1);
        same("want " + p + " " + light, room.want(p, light), model.want(p, light));
        same("enough " + p, room.enough(p), model.enough(p));
    }

    /** Halves and quarters between few patches, so that lights are often whole. */
    private void round() {
        int patches = from(1, 4);
        int[] kinds = new int[patches];
        for (int p = 0; p < patches; p++) {
            kinds[p] = below(4) == 0 ? 0 : 1 + below(2);
            kinds[p] = p == 3 && kinds[p] == 1 ? 2 : kinds[p];
        }
        layPatches(kinds);
        int parts = 1 << below(3);
        same("parts " + parts, room.parts(parts), model.parts(parts));
        for (int i = 0; i < 30; i++) {
            int p = below(patches);
            int j = below(patches);
            int d = 1 + below(3);
            int part = below(parts + 1);
            int own = 12 * below(20);
            same("on " + p + " " + (d - 1) + " " + d, room.on(p, d - 1, d), model.on(p, d - 1, d));
            same("own " + p + " " + own, room.own(p, own), model.own(p, own));
            same("table " + p + " " + j + " " + part, room.table(p, j, part), model.table(p, j, part));
            wantNear(j);
            int price = below(3);
            int most = 60 * below(5);
            same("price " + p + " " + price + " " + most, room.price(p, price, most), model.price(p, price, most));
            same("least", room.least(), model.least());
            same("power " + j, room.power(j), model.power(j));
        }
    }

    /** Powers of ten and their neighbours, so that long numbers have rows of noughts and nines. */
    private void noughts() {
        int[] kinds = new int[from(2, 6)];
        for (int p = 0; p < kinds.length; p++) {
            kinds[p] = p < 3 ? below(3) : 2 * below(2);
        }
        layPatches(kinds);
        int parts = tens(3);
        same("parts " + parts, room.parts(parts), model.parts(parts));
        for (int i = 0; i < 4 * made; i++) {
            int p = below(made);
            int d = tens(2);
            int n = below(3) == 0 ? d - 1 : Math.min(1, d - 1);
            int j = below(made);
            int part = nearTens(3);
            int light = nearTens(4);
            same("on " + p + " " + n + " " + d, room.on(p, n, d), model.on(p, n, d));
            same("table " + p + " " + j + " " + part, room.table(p, j, part), model.table(p, j, part));
            same("own " + p + " " + light, room.own(p, light), model.own(p, light));
            same("want " + j + " " + light, room.want(j, light), model.want(j, light));
        }
        for (int i = 0; i < 2 * made; i++) {
            call(11 + below(4));
            leastForTens();
        }
    }

    private void leastForTens() {
        int p = below(made);
        int light = nearTens(5);
        int price = nearTens(2);
        same("want " + p + " " + light, room.want(p, light), model.want(p, light));
        same("price " + p + " " + price, room.price(p, price, 10000), model.price(p, price, 10000));
        same("least", room.least(), model.least());
        same("power " + p, room.power(p), model.power(p));
    }

    private int tens(int mostNoughts) {
        int ten = 1;
        for (int i = below(mostNoughts + 1); i > 0; i--) {
            ten *= 10;
        }
        return ten;
    }

    private int nearTens(int mostNoughts) {
        return Math.max(0, tens(mostNoughts) - (below(3) == 0 ? 1 : 0));
    }

    private void anything(int many) {
        for (int i = 0; i < many; i++) {
            call(i < 20 ? below(2) : below(19));
        }
    }

    private int somePatch() {
        return mostly(below(9) == 0 ? below(10) : below(Math.max(1, made)));
    }

    private void call(int which) {
        switch (which) {
            case 0: {
                int x = mostly(from(-reach, reach));
                int y = mostly(from(-reach, reach));
                same("corner " + x + " " + y, room.corner(x, y), model.corner(x, y));
                break;
            }
            case 1: {
                int a = mostly(below(13));
                int b = mostly(below(13));
                int kind = mostly(below(3));
                int number = model.patch(a, b, kind);
                made = Math.max(made, number + 1);
                same("patch " + a + " " + b + " " + kind, room.patch(a, b, kind), number);
                break;
            }
            case 2: {
                int p = somePatch();
                int d = mostly(below(2) == 0 ? from(1, 100) : from(90, 100));
                int n = mostly(below(3) == 0 ? d - 1 : d > 0 ? below(d) : 0);
                same("on " + p + " " + n + " " + d, room.on(p, n, d), model.on(p, n, d));
                break;
            }
            case 3: {
                int p = somePatch();
                int light = mostly(below(4) == 0 ? 10000 : below(10001));
                same("own " + p + " " + light, room.own(p, light), model.own(p, light));
                break;
            }
            case 4: {
                int p = somePatch();
                int what = mostly(below(9));
                same("told " + p + " " + what, room.told(p, what), model.told(p, what));
                break;
            }
            case 5: {
                int a = somePatch();
                int b = somePatch();
                same("sight " + a + " " + b, room.sight(a, b), model.sight(a, b));
                break;
            }
            case 6: {
                int p = somePatch();
                int k = mostly(below(21));
                boolean up = random.nextBoolean();
                same("length " + p + " " + k + " " + up, room.length(p, k, up), model.length(p, k, up));
                break;
            }
            case 7: {
                int a = somePatch();
                int b = somePatch();
                int k = mostly(below(21));
                boolean high = random.nextBoolean();
                same("share " + a + " " + b + " " + k + " " + high, room.share(a, b, k, high), model.share(a, b, k, high));
                break;
            }
            case 8: {
                int a = somePatch();
                int b = somePatch();
                same("crossed " + a + " " + b, room.crossed(a, b), model.crossed(a, b));
                break;
            }
            default:
                callLight(which);
        }
    }

    private void callLight(int which) {
        int p = somePatch();
        switch (which) {
            case 9: {
                int many = mostly(from(1, 1000));
                same("parts " + many, room.parts(many), model.parts(many));
                break;
            }
            case 10: {
                int j = somePatch();
                int part = mostly(below(3) == 0 ? below(1001) : below(300));
                same("table " + p + " " + j + " " + part, room.table(p, j, part), model.table(p, j, part));
                break;
            }
            case 11:
                same("light " + p, room.light(p), model.light(p));
                break;
            case 12: {
                int t = mostly(below(7));
                same("bounce " + p + " " + t, room.bounce(p, t), model.bounce(p, t));
                break;
            }
            case 13: {
                int j = somePatch();
                same("pull " + p + " " + j, room.pull(p, j), model.pull(p, j));
                break;
            }
            case 14:
                same("enough " + p, room.enough(p), model.enough(p));
                break;
            case 15: {
                int light = mostly(below(2) == 0 ? below(300) : below(20000));
                same("want " + p + " " + light, room.want(p, light), model.want(p, light));
                break;
            }
            case 16: {
                int price = mostly(below(2) == 0 ? below(3) : below(1001));
                int most = mostly(below(3) == 0 ? 10000 : below(10001));
                same("price " + p + " " + price + " " + most, room.price(p, price, most), model.price(p, price, most));
                break;
            }
            case 17:
                same("least", room.least(), model.least());
                break;
            default:
                same("power " + p, room.power(p), model.power(p));
        }
    }

    private void same(String call, boolean got, boolean due) {
        same(call, got ? 1 : 0, due ? 1 : 0);
    }

    private void same(String call, long got, long due) {
        calls.append(call).append("; ");
        String gotOut = text(room);
        String dueOut = text(model);
        if (got != due || room.status() != model.status() || !gotOut.equals(dueOut)) {
            wrong++;
            if (wrong < 5) {
                System.out.println(call + " answered " + got + " (" + room.status() + ") " + gotOut
                    + ", due is " + due + " (" + model.status() + ") " + dueOut + " after " + calls);
            }
        }
    }

    private static String text(LightRoom room) {
        StringBuilder text = new StringBuilder();
        for (int k = 0; room.out(k) != -1; k++) {
            text.append((char) room.out(k));
        }
        return text.toString();
    }

    private static String text(Model model) {
        StringBuilder text = new StringBuilder();
        for (int k = 0; model.out(k) != -1; k++) {
            text.append((char) model.out(k));
        }
        return text.toString();
    }
}
