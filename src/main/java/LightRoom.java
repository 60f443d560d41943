/**
 * A flat world of rooms: patches between corners, what sees what, shares by strings, and with a
 * told table the light of all bounces and the least price of lamps with which all have enough.
 */
public final class LightRoom {
    public static final int NONE = -1;

    private static final int FINE = 0;
    private static final int NO_SUCH = 1;
    private static final int NO_NUMBER = 2;
    private static final int TOO_MANY = 3;
    private static final int THERE_ALREADY = 4;
    private static final int OTHER_KIND = 5;
    private static final int NOT_WHOLE = 6;
    private static final int WOULD_MEET = 7;
    private static final int NO_ANSWER = 8;

    private static final int PLAIN = 0;
    private static final int LAMP = 1;
    private static final int GAP = 2;

    private static final int CORNERS = 24;
    private static final int PATCHES = 8;
    private static final int LAMPS = 3;
    private static final int FARTHEST = 1000;
    private static final int WHOLE_SIGHT = 2;
    private static final int MOST_POWER = 20;
    private static final int MOST_BOTTOM = 100;
    private static final int MOST_OWN = 10_000;
    private static final int MOST_WANTED = 100_000;
    private static final int MOST_PRICE = 1000;
    private static final int MOST_PARTS = 1000;
    private static final int MOST_BOUNCES = 6;
    private static final int MOST_WHAT = 8;

    // Limbs of six digits that the numbers need. A determinant of eight rows stays below 10^43, a
    // product of two below 10^86, a bounce or a point of LEAST below 10^131, and what LEAST
    // compares below 10^205.
    private static final int SHORT_ROOM = 10;
    private static final int PRODUCT_ROOM = 20;
    private static final int LONG_ROOM = 28;
    private static final int FULL_ROOM = 40;

    private final Walls walls;
    private final Table table;
    private final Glow glow;
    private final Bounces bounces;
    private final Cheapest cheapest;
    private final Out out;
    private int status;

    public LightRoom() {
        walls = new Walls();
        table = new Table();
        glow = new Glow();
        bounces = new Bounces();
        cheapest = new Cheapest();
        out = new Out();
        status = FINE;
    }

    public int status() {
        return status;
    }

    public int out(int k) {
        return out.byteAt(k);
    }

    // ---- walls

    public int corner(int x, int y) {
        status = cornerStatus(x, y);
        return status == FINE ? walls.addCorner(x, y) : NONE;
    }

    public int patch(int from, int to, int kind) {
        status = newPatchStatus(from, to, kind);
        if (status != FINE) {
            return NONE;
        }
        sharesChanged();
        return walls.addPatch(from, to, kind);
    }

    public boolean on(int patch, int n, int d) {
        status = onStatus(patch, n, d);
        if (status != FINE) {
            return false;
        }
        walls.patches[patch].top = n;
        walls.patches[patch].bottom = d;
        sharesChanged();
        return true;
    }

    public boolean own(int patch, int light) {
        status = ownStatus(patch, light);
        if (status != FINE) {
            return false;
        }
        walls.patches[patch].own = light;
        lampsChanged();
        return true;
    }

    public int told(int patch, int what) {
        status = numberStatus(patch, what, MOST_WHAT);
        return status == FINE ? walls.patches[patch].fact(what) : NONE;
    }

    public int sight(int a, int b) {
        status = pairStatus(a, b);
        return status == FINE ? walls.sightOf(a, b) : NONE;
    }

    public long length(int patch, int k, boolean up) {
        status = numberStatus(patch, k, MOST_POWER);
        return status == FINE ? walls.patchLength(patch, k, up) : NONE;
    }

    public int share(int a, int b, int k, boolean high) {
        status = shareStatus(a, b, k);
        if (status != FINE) {
            return NONE;
        }
        return high ? walls.highShare(a, b, k) : walls.lowShare(a, b, k);
    }

    public int crossed(int a, int b) {
        status = pairStatus(a, b);
        return status == FINE ? walls.compareStrings(a, b) : NONE;
    }

    // ---- light

    public boolean parts(int many) {
        status = isFrom(1, many, MOST_PARTS) ? FINE : NO_NUMBER;
        if (status != FINE) {
            return false;
        }
        table.begin(many);
        sharesChanged();
        return true;
    }

    public boolean table(int i, int j, int part) {
        status = tableStatus(i, j, part);
        if (status != FINE) {
            return false;
        }
        table.rows[i][j] = part;
        sharesChanged();
        return true;
    }

    public int light(int patch) {
        status = patchStatus(patch);
        if (status != FINE) {
            return NONE;
        }
        glow.solve(walls, table);
        glow.gather(patch, walls, false);
        return out.tell(glow.sum, glow.whole);
    }

    public int bounce(int patch, int t) {
        status = numberStatus(patch, t, MOST_BOUNCES);
        if (status != FINE) {
            return NONE;
        }
        bounces.begin(walls, table.parts);
        for (int done = 0; done < t; done++) {
            bounces.goOn(walls, table);
        }
        return out.tell(bounces.now[patch], bounces.scale);
    }

    public int pull(int i, int j) {
        status = walls.hasPatch(i) && walls.hasPatch(j) ? FINE : NO_SUCH;
        if (status != FINE) {
            return NONE;
        }
        glow.solve(walls, table);
        return out.tell(glow.pulls[i * PATCHES + j], glow.whole);
    }

    public int enough(int patch) {
        status = patchStatus(patch);
        if (status != FINE) {
            return NONE;
        }
        int needed = bouncesNeeded(patch);
        if (needed <= MOST_BOUNCES) {
            return needed;
        }
        glow.solve(walls, table);
        int side = glow.compareLight(patch, walls);
        return side > 0 ? 7 : side == 0 ? 8 : 9;
    }

    public boolean want(int patch, int light) {
        status = numberStatus(patch, light, MOST_WANTED);
        if (status != FINE) {
            return false;
        }
        walls.patches[patch].wanted = light;
        lampsChanged();
        return true;
    }

    public boolean price(int patch, int price, int most) {
        status = priceStatus(patch, price, most);
        if (status != FINE) {
            return false;
        }
        walls.patches[patch].price = price;
        walls.patches[patch].most = most;
        lampsChanged();
        return true;
    }

    public int least() {
        glow.solve(walls, table);
        cheapest.find(walls, glow);
        status = cheapest.found ? FINE : NO_ANSWER;
        return status == FINE ? out.tell(cheapest.total, cheapest.whole) : NONE;
    }

    public int power(int patch) {
        status = lampStatus(patch);
        if (status != FINE) {
            return NONE;
        }
        glow.solve(walls, table);
        cheapest.find(walls, glow);
        status = cheapest.found ? FINE : NO_ANSWER;
        return status == FINE ? out.tell(cheapest.ownOf(patch), cheapest.whole) : NONE;
    }

    // ---- which status a call has

    private static boolean isFrom(int least, int number, int most) {
        return number >= least && number <= most;
    }

    private int cornerStatus(int x, int y) {
        if (!isFrom(-FARTHEST, x, FARTHEST) || !isFrom(-FARTHEST, y, FARTHEST)) {
            return NO_NUMBER;
        }
        if (walls.corners >= CORNERS) {
            return TOO_MANY;
        }
        return walls.hasCornerAt(x, y) ? THERE_ALREADY : FINE;
    }

    private int newPatchStatus(int from, int to, int kind) {
        if (!walls.hasCorner(from) || !walls.hasCorner(to) || from == to) {
            return NO_SUCH;
        }
        if (!isFrom(PLAIN, kind, GAP)) {
            return NO_NUMBER;
        }
        if (walls.count >= PATCHES) {
            return TOO_MANY;
        }
        if (kind == LAMP && walls.lamps >= LAMPS) {
            return OTHER_KIND;
        }
        return walls.meetsAny(from, to) ? WOULD_MEET : FINE;
    }

    private int patchStatus(int patch) {
        return walls.hasPatch(patch) ? FINE : NO_SUCH;
    }

    private int pairStatus(int a, int b) {
        return walls.hasPatch(a) && walls.hasPatch(b) && a != b ? FINE : NO_SUCH;
    }

    private int numberStatus(int patch, int number, int most) {
        if (!walls.hasPatch(patch)) {
            return NO_SUCH;
        }
        return isFrom(0, number, most) ? FINE : NO_NUMBER;
    }

    private int onStatus(int patch, int n, int d) {
        if (!walls.hasPatch(patch)) {
            return NO_SUCH;
        }
        if (!isFrom(1, d, MOST_BOTTOM) || !isFrom(0, n, d - 1)) {
            return NO_NUMBER;
        }
        return walls.patches[patch].kind == GAP && n != 0 ? OTHER_KIND : FINE;
    }

    private int ownStatus(int patch, int light) {
        int first = numberStatus(patch, light, MOST_OWN);
        if (first != FINE) {
            return first;
        }
        return walls.patches[patch].kind == PLAIN && light != 0 ? OTHER_KIND : FINE;
    }

    private int shareStatus(int a, int b, int k) {
        int first = pairStatus(a, b);
        if (first != FINE) {
            return first;
        }
        if (!isFrom(0, k, MOST_POWER)) {
            return NO_NUMBER;
        }
        return walls.sightOf(a, b) == WHOLE_SIGHT ? FINE : NOT_WHOLE;
    }

    private int tableStatus(int i, int j, int part) {
        if (!walls.hasPatch(i) || !walls.hasPatch(j)) {
            return NO_SUCH;
        }
        return isFrom(0, part, table.partsLeft(i, j)) ? FINE : NO_NUMBER;
    }

    private int lampStatus(int patch) {
        if (!walls.hasPatch(patch)) {
            return NO_SUCH;
        }
        return walls.patches[patch].kind == LAMP ? FINE : OTHER_KIND;
    }

    private int priceStatus(int patch, int price, int most) {
        if (!walls.hasPatch(patch)) {
            return NO_SUCH;
        }
        if (!isFrom(0, price, MOST_PRICE) || !isFrom(0, most, MOST_OWN)) {
            return NO_NUMBER;
        }
        return lampStatus(patch);
    }

    // ---- what is kept of earlier calls

    private void sharesChanged() {
        glow.known = false;
        cheapest.known = false;
    }

    private void lampsChanged() {
        cheapest.known = false;
    }

    private int bouncesNeeded(int patch) {
        bounces.begin(walls, table.parts);
        for (int t = 0; t < MOST_BOUNCES; t++) {
            if (bounces.reaches(patch, walls)) {
                return t;
            }
            bounces.goOn(walls, table);
        }
        return bounces.reaches(patch, walls) ? MOST_BOUNCES : MOST_BOUNCES + 1;
    }

    /** What is told of one patch. */
    private static final class Patch {
        int kind;
        int first;
        int second;
        int top;
        int bottom;
        int own;
        int wanted;
        int price;
        int most;

        void begin(int from, int to, int newKind) {
            kind = newKind;
            first = from;
            second = to;
            top = 0;
            bottom = 1;
            own = 0;
            wanted = 0;
            price = 1;
            most = MOST_OWN;
        }

        int fact(int what) {
            switch (what) {
                case 0: return kind;
                case 1: return first;
                case 2: return second;
                case 3: return top;
                case 4: return bottom;
                case 5: return own;
                case 6: return wanted;
                case 7: return price;
                case 8: return most;
                default: return NONE;
            }
        }
    }

    /** Corners and patches, and what their places alone decide. */
    private static final class Walls {
        private static final int RING = 4;
        private static final int NEARLY_ALIKE = 4;

        final int[] xs = new int[CORNERS];
        final int[] ys = new int[CORNERS];
        int corners;
        final Patch[] patches = new Patch[PATCHES];
        int count;
        int lamps;
        final int[] ring = new int[RING];

        Walls() {
            for (int i = 0; i < PATCHES; i++) {
                patches[i] = new Patch();
            }
        }

        boolean hasCorner(int number) {
            return number >= 0 && number < corners;
        }

        boolean hasPatch(int number) {
            return number >= 0 && number < count;
        }

        boolean hasCornerAt(int x, int y) {
            for (int i = 0; i < corners; i++) {
                if (xs[i] == x && ys[i] == y) {
                    return true;
                }
            }
            return false;
        }

        int addCorner(int x, int y) {
            if (corners >= CORNERS) {
                return NONE;
            }
            xs[corners] = x;
            ys[corners] = y;
            corners++;
            return corners - 1;
        }

        int addPatch(int from, int to, int kind) {
            if (count >= PATCHES) {
                return NONE;
            }
            patches[count].begin(from, to, kind);
            if (kind == LAMP) {
                lamps++;
            }
            count++;
            return count - 1;
        }

        /** Above 0 if the corner is left of the line, below 0 if right of it, 0 on it. */
        private long side(int from, int to, int corner) {
            long alongX = xs[to] - xs[from];
            long alongY = ys[to] - ys[from];
            return alongX * (ys[corner] - ys[from]) - alongY * (xs[corner] - xs[from]);
        }

        boolean meetsAny(int from, int to) {
            for (int i = 0; i < count; i++) {
                if (meets(from, to, patches[i].first, patches[i].second)) {
                    return true;
                }
            }
            return false;
        }

        /** Whether two pieces have a point in common that isn't an end of both. */
        private boolean meets(int a, int b, int c, int d) {
            boolean sameEnds = a == c && b == d || a == d && b == c;
            return sameEnds || crosses(a, b, c, d)
                || isWithin(a, c, d) || isWithin(b, c, d)
                || isWithin(c, a, b) || isWithin(d, a, b);
        }

        private boolean crosses(int a, int b, int c, int d) {
            return side(a, b, c) * side(a, b, d) < 0 && side(c, d, a) * side(c, d, b) < 0;
        }

        /** Whether a corner is on a piece, but at neither end. */
        private boolean isWithin(int corner, int from, int to) {
            int dot = (xs[from] - xs[corner]) * (xs[to] - xs[corner])
                + (ys[from] - ys[corner]) * (ys[to] - ys[corner]);
            return dot < 0 && side(from, to, corner) == 0;
        }

        int sightOf(int a, int b) {
            int aFirst = patches[a].first;
            int aSecond = patches[a].second;
            int bFirst = patches[b].first;
            int bSecond = patches[b].second;
            long firstByA = side(aFirst, aSecond, bFirst);
            long secondByA = side(aFirst, aSecond, bSecond);
            long firstByB = side(bFirst, bSecond, aFirst);
            long secondByB = side(bFirst, bSecond, aSecond);
            if (Math.max(firstByA, secondByA) <= 0 || Math.max(firstByB, secondByB) <= 0) {
                return 0;
            }
            if (Math.min(firstByA, secondByA) < 0 || Math.min(firstByB, secondByB) < 0) {
                return 1;
            }
            ring[0] = aFirst;
            ring[1] = aSecond;
            ring[2] = bFirst;
            ring[3] = bSecond;
            return isRingFree(a, b) ? WHOLE_SIGHT : 1;
        }

        private boolean isRingFree(int a, int b) {
            for (int i = 0; i < count; i++) {
                if (i != a && i != b && entersRing(patches[i].first, patches[i].second)) {
                    return false;
                }
            }
            return true;
        }

        /**
         * Whether a piece has a point inside the ring. Where each patch has the other one on its
         * left, both are edges of the convex piece, so the ring goes around it, and inside means
         * left of every edge. Every edge leaves an open stretch of the way from one end to the
         * other; there is such a point, if all stretches have one in common.
         */
        private boolean entersRing(int from, int to) {
            long afterTop = -1;
            long afterBottom = 1;
            long beforeTop = 2;
            long beforeBottom = 1;
            for (int i = 0; i < RING; i++) {
                int start = ring[i];
                int end = ring[(i + 1) % RING];
                if (start == end) {
                    continue;
                }
                long atFrom = side(start, end, from);
                long atTo = side(start, end, to);
                if (atFrom <= 0 && atTo <= 0) {
                    return false;
                }
                if (atFrom <= 0 && -atFrom * afterBottom > afterTop * (atTo - atFrom)) {
                    afterTop = -atFrom;
                    afterBottom = atTo - atFrom;
                }
                if (atTo <= 0 && atFrom * beforeBottom < beforeTop * (atFrom - atTo)) {
                    beforeTop = atFrom;
                    beforeBottom = atFrom - atTo;
                }
            }
            return afterTop * beforeBottom < beforeTop * afterBottom;
        }

        long patchLength(int patch, int k, boolean up) {
            int first = patches[patch].first;
            int second = patches[patch].second;
            return up ? lengthUp(first, second, k) : lengthDown(first, second, k);
        }

        /** The square of a length by 2 to the power k: below 2^63, as k is at most 20. */
        private long square(int from, int to, int k) {
            long x = xs[to] - xs[from];
            long y = ys[to] - ys[from];
            return (x * x + y * y) << (2 * k);
        }

        private long lengthDown(int from, int to, int k) {
            return rootDown(square(from, to, k));
        }

        private long lengthUp(int from, int to, int k) {
            long square = square(from, to, k);
            long root = rootDown(square);
            return root * root == square ? root : root + 1;
        }

        private static long rootDown(long square) {
            long root = 0;
            for (int bit = 31; bit >= 0; bit--) {
                long trial = root + (1L << bit);
                // Divided, as the square of a trial can be too great for a long.
                if (trial > 0 && trial <= square / trial) {
                    root = trial;
                }
            }
            return root;
        }

        private long crossedDown(int a, int b, int k) {
            return lengthDown(patches[a].first, patches[b].first, k)
                + lengthDown(patches[a].second, patches[b].second, k);
        }

        private long uncrossedDown(int a, int b, int k) {
            return lengthDown(patches[a].first, patches[b].second, k)
                + lengthDown(patches[a].second, patches[b].first, k);
        }

        private long crossedUp(int a, int b, int k) {
            return lengthUp(patches[a].first, patches[b].first, k)
                + lengthUp(patches[a].second, patches[b].second, k);
        }

        private long uncrossedUp(int a, int b, int k) {
            return lengthUp(patches[a].first, patches[b].second, k)
                + lengthUp(patches[a].second, patches[b].first, k);
        }

        int lowShare(int a, int b, int k) {
            long more = Math.max(0, crossedDown(a, b, k) - uncrossedUp(a, b, k));
            long twice = 2 * patchLength(a, k, true);
            return twice > 0 ? (int) ((more << k) / twice) : 0;
        }

        int highShare(int a, int b, int k) {
            long more = Math.max(0, crossedUp(a, b, k) - uncrossedDown(a, b, k));
            long twice = 2 * patchLength(a, k, false);
            return twice > 0 ? (int) (((more << k) + twice - 1) / twice) : 0;
        }

        int compareStrings(int a, int b) {
            long more = crossedDown(a, b, MOST_POWER) - uncrossedDown(a, b, MOST_POWER);
            if (Math.abs(more) <= NEARLY_ALIKE) {
                return 0;
            }
            return more > 0 ? 1 : -1;
        }
    }

    /** The told shares. */
    private static final class Table {
        private static final int PARTS_AT_FIRST = 100;

        int parts = PARTS_AT_FIRST;
        final int[][] rows = new int[PATCHES][PATCHES];

        void begin(int many) {
            parts = many;
            for (int i = 0; i < PATCHES; i++) {
                for (int j = 0; j < PATCHES; j++) {
                    rows[i][j] = 0;
                }
            }
        }

        /** What the others of row i leave for (i, j). */
        int partsLeft(int i, int j) {
            int left = parts;
            for (int other = 0; other < PATCHES; other++) {
                if (other != j) {
                    left -= rows[i][other];
                }
            }
            return left;
        }
    }

    /** A whole number, its room made once: what would not fit is cut off, so rooms are ample. */
    private static final class Big {
        // Three limbs together fit a long, so that a quotient's digit is guessed by one division.
        static final int LIMB = 1_000_000;
        private static final int LEAST_ROOM = 4;
        private static final int MOST_BACK = 3;
        private static final int MOST_EUCLID_STEPS = 100_000;

        final int[] limbs;
        int size;
        boolean below;

        Big(int room) {
            limbs = new int[Math.max(room, LEAST_ROOM)];
        }

        void set(long value) {
            below = value < 0;
            size = 0;
            long rest = value;
            for (int i = 0; i < limbs.length && rest != 0; i++) {
                limbs[i] = (int) Math.abs(rest % LIMB);
                rest /= LIMB;
                size = i + 1;
            }
        }

        void copy(Big from) {
            below = from.below;
            size = Math.min(from.size, limbs.length);
            System.arraycopy(from.limbs, 0, limbs, 0, size);
        }

        int sign() {
            if (size == 0) {
                return 0;
            }
            return below ? -1 : 1;
        }

        void negate() {
            below = size > 0 && !below;
        }

        private int limbAt(int i) {
            return i >= 0 && i < size ? limbs[i] : 0;
        }

        private void trim() {
            for (int i = size; i > 0 && limbs[i - 1] == 0; i--) {
                size = i - 1;
            }
            below = size > 0 && below;
        }

        /** Times a number that isn't below 0. */
        void times(int factor) {
            long carry = 0;
            for (int i = 0; i < size; i++) {
                long product = (long) limbs[i] * factor + carry;
                limbs[i] = (int) (product % LIMB);
                carry = product / LIMB;
            }
            extend(carry);
            trim();
        }

        /** Puts what is left of a row above the highest limb. */
        private void extend(long carry) {
            long rest = carry;
            for (int i = size; i < limbs.length && rest > 0; i++) {
                limbs[i] = (int) (rest % LIMB);
                rest /= LIMB;
                size = i + 1;
            }
        }

        /** More by a number so many times; none of the three is below 0. */
        void plusTimes(Big other, int factor) {
            long carry = 0;
            for (int i = 0; i < limbs.length && (i < other.size || carry > 0 && i < size); i++) {
                long sum = (long) limbAt(i) + (long) other.limbAt(i) * factor + carry;
                limbs[i] = (int) (sum % LIMB);
                carry = sum / LIMB;
                size = Math.max(size, i + 1);
            }
            extend(carry);
            trim();
        }

        /** Neither a nor b may be this number itself. */
        void setProduct(Big a, Big b) {
            size = Math.min(a.size + b.size, limbs.length);
            for (int i = 0; i < size; i++) {
                limbs[i] = 0;
            }
            for (int i = 0; i < a.size; i++) {
                addRow(a.limbs[i], b, i);
            }
            below = a.below != b.below;
            trim();
        }

        private void addRow(long factor, Big b, int shift) {
            long carry = 0;
            for (int i = 0; i < b.size && shift + i < size; i++) {
                long sum = limbs[shift + i] + factor * b.limbs[i] + carry;
                limbs[shift + i] = (int) (sum % LIMB);
                carry = sum / LIMB;
            }
            // No row before this one has come so far up.
            if (shift + b.size < size) {
                limbs[shift + b.size] = (int) carry;
            }
        }

        void plusProduct(Big a, Big b, Big scratch) {
            scratch.setProduct(a, b);
            add(scratch, false);
        }

        /** Adds the other number, or takes it away, if it is to be turned. */
        void add(Big other, boolean turned) {
            boolean otherBelow = other.below != turned;
            if (below == otherBelow || size == 0) {
                raise(other);
                below = otherBelow;
            } else if (compareSizes(other) >= 0) {
                lower(other);
            } else {
                lowerFrom(other);
                below = otherBelow;
            }
            trim();
        }

        private void raise(Big other) {
            for (int i = size; i < limbs.length && i < other.size; i++) {
                limbs[i] = 0;
                size = i + 1;
            }
            int carry = 0;
            for (int i = 0; i < size && (i < other.size || carry > 0); i++) {
                int sum = limbs[i] + (i < other.size ? other.limbs[i] : 0) + carry;
                carry = sum >= LIMB ? 1 : 0;
                limbs[i] = sum - carry * LIMB;
            }
            extend(carry);
        }

        /** The other one is not greater. */
        private void lower(Big other) {
            int borrow = 0;
            for (int i = 0; i < size && (i < other.size || borrow > 0); i++) {
                int rest = limbs[i] - (i < other.size ? other.limbs[i] : 0) - borrow;
                borrow = rest < 0 ? 1 : 0;
                limbs[i] = rest + borrow * LIMB;
            }
        }

        /** The other one is greater, and this one is taken from it. */
        private void lowerFrom(Big other) {
            int borrow = 0;
            int newSize = Math.min(other.size, limbs.length);
            for (int i = 0; i < newSize; i++) {
                int rest = other.limbs[i] - (i < size ? limbs[i] : 0) - borrow;
                borrow = rest < 0 ? 1 : 0;
                limbs[i] = rest + borrow * LIMB;
            }
            size = newSize;
        }

        /** Compares without regard to signs. */
        int compareSizes(Big other) {
            if (size != other.size) {
                return size > other.size ? 1 : -1;
            }
            for (int i = size - 1; i >= 0; i--) {
                if (limbs[i] != other.limbs[i]) {
                    return limbs[i] > other.limbs[i] ? 1 : -1;
                }
            }
            return 0;
        }

        /** Leaves the remainder here; the quotient is another number than these two. */
        void divide(Big divisor, Big quotient) {
            int highest = size - divisor.size;
            quotient.size = 0;
            quotient.below = below != divisor.below;
            if (divisor.size > 0 && highest >= 0) {
                quotient.size = Math.min(highest + 1, quotient.limbs.length);
                for (int shift = highest; shift >= 0; shift--) {
                    int digit = takeAway(divisor, shift);
                    if (shift < quotient.size) {
                        quotient.limbs[shift] = digit;
                    }
                }
            }
            quotient.trim();
            trim();
        }

        /** Takes the shifted divisor away as often as can be, and tells how often. */
        private int takeAway(Big divisor, int shift) {
            int top = shift + divisor.size;
            long window = ((long) limbAt(top) * LIMB + limbAt(top - 1)) * LIMB + limbAt(top - 2);
            long head = (long) divisor.limbAt(divisor.size - 1) * LIMB
                + divisor.limbAt(divisor.size - 2);
            // The divisor is at least its head, so the guess is right or up to 2 too great.
            long guess = head > 0 ? window / head : 0;
            if (guess == 0) {
                return 0;
            }
            long rest = limbAt(top) - takeTimes(divisor, guess, shift);
            for (int back = 0; back < MOST_BACK && rest < 0; back++) {
                rest += giveBack(divisor, shift);
                guess--;
            }
            if (top < size) {
                limbs[top] = 0;
            }
            return (int) guess;
        }

        private long takeTimes(Big divisor, long times, int shift) {
            long borrow = 0;
            for (int i = 0; i < divisor.size && shift + i < size; i++) {
                long rest = limbs[shift + i] - times * divisor.limbs[i] - borrow;
                borrow = rest < 0 ? (LIMB - 1 - rest) / LIMB : 0;
                limbs[shift + i] = (int) (rest + borrow * LIMB);
            }
            return borrow;
        }

        private int giveBack(Big divisor, int shift) {
            int carry = 0;
            for (int i = 0; i < divisor.size && shift + i < size; i++) {
                int sum = limbs[shift + i] + divisor.limbs[i] + carry;
                carry = sum >= LIMB ? 1 : 0;
                limbs[shift + i] = sum - carry * LIMB;
            }
            return carry;
        }

        /** Uses up both numbers; one of them is the answer. */
        static Big greatestDivisor(Big a, Big b, Big scratch) {
            Big greater = a;
            Big smaller = b;
            for (int step = 0; step < MOST_EUCLID_STEPS && smaller.size > 0; step++) {
                greater.divide(smaller, scratch);
                Big rest = greater;
                greater = smaller;
                smaller = rest;
            }
            return greater;
        }
    }

    /** The bytes that are told. */
    private static final class Out {
        private static final int ROOM = 512;

        final byte[] bytes = new byte[ROOM];
        int size;
        final Big top = new Big(FULL_ROOM);
        final Big bottom = new Big(FULL_ROOM);
        final Big divided = new Big(FULL_ROOM);
        final Big divisor = new Big(FULL_ROOM);
        final Big scratch = new Big(FULL_ROOM);

        int byteAt(int k) {
            return k >= 0 && k < size ? bytes[k] : NONE;
        }

        /** Writes the fraction without a common divisor; its bottom is above 0. */
        int tell(Big fractionTop, Big fractionBottom) {
            top.copy(fractionTop);
            bottom.copy(fractionBottom);
            divisor.copy(fractionTop);
            divisor.below = false;
            divided.copy(fractionBottom);
            Big common = Big.greatestDivisor(divided, divisor, scratch);
            size = 0;
            top.divide(common, scratch);
            write(scratch);
            put('/');
            bottom.divide(common, scratch);
            write(scratch);
            return size;
        }

        private void put(int character) {
            if (size < ROOM) {
                bytes[size] = (byte) character;
                size++;
            }
        }

        private void write(Big number) {
            if (number.below) {
                put('-');
            }
            if (number.size == 0) {
                put('0');
            }
            boolean begun = false;
            for (int i = number.size - 1; i >= 0; i--) {
                begun = writeLimb(number.limbs[i], begun);
            }
        }

        private boolean writeLimb(int limb, boolean begunBefore) {
            boolean begun = begunBefore;
            for (int ten = Big.LIMB / 10; ten > 0; ten /= 10) {
                int digit = limb / ten % 10;
                begun = begun || digit != 0;
                if (begun) {
                    put('0' + digit);
                }
            }
            return begun;
        }
    }

    /** The light of all bounces: what each patch's own light does at each patch. */
    private static final class Glow {
        /** Row by row: PULL (i, j) is pulls[i * PATCHES + j] by whole. */
        final Big[] pulls = new Big[PATCHES * PATCHES];
        final Big whole = new Big(SHORT_ROOM);
        final Big sum = new Big(PRODUCT_ROOM);
        final Big product = new Big(PRODUCT_ROOM);
        final Big scratch = new Big(PRODUCT_ROOM);
        boolean known;

        Glow() {
            for (int i = 0; i < pulls.length; i++) {
                pulls[i] = new Big(SHORT_ROOM);
            }
        }

        void solve(Walls walls, Table table) {
            if (known) {
                return;
            }
            lay(walls, table);
            whole.set(1);
            for (int k = 0; k < walls.count; k++) {
                turnAbout(k, walls.count);
            }
            scaleColumns(walls, table.parts);
            known = true;
        }

        /** Row i says: bottom * PARTS * light i - top * parts * lights = bottom * PARTS * own i. */
        private void lay(Walls walls, Table table) {
            for (int i = 0; i < walls.count; i++) {
                Patch patch = walls.patches[i];
                for (int j = 0; j < walls.count; j++) {
                    int self = i == j ? patch.bottom * table.parts : 0;
                    pulls[i * PATCHES + j].set(self - patch.top * table.rows[i][j]);
                }
            }
        }

        /**
         * One step of the inverse in place, kept whole by dividing by the step before. The
         * diagonal outweighs the rest of each row, so no pivot is ever 0 or below.
         */
        private void turnAbout(int k, int count) {
            Big pivot = pulls[k * PATCHES + k];
            for (int i = 0; i < count; i++) {
                for (int j = 0; i != k && j < count; j++) {
                    if (j != k) {
                        Big cell = pulls[i * PATCHES + j];
                        product.setProduct(pivot, cell);
                        scratch.setProduct(pulls[i * PATCHES + k], pulls[k * PATCHES + j]);
                        product.add(scratch, true);
                        product.divide(whole, cell);
                    }
                }
            }
            for (int i = 0; i < count; i++) {
                if (i != k) {
                    pulls[i * PATCHES + k].negate();
                }
            }
            scratch.copy(whole);
            whole.copy(pivot);
            pivot.copy(scratch);
        }

        private void scaleColumns(Walls walls, int parts) {
            for (int j = 0; j < walls.count; j++) {
                for (int i = 0; i < walls.count; i++) {
                    pulls[i * PATCHES + j].times(walls.patches[j].bottom * parts);
                }
            }
        }

        /** Leaves the light of a patch, times whole, in sum; without what lamps do, if asked. */
        void gather(int patch, Walls walls, boolean withoutLamps) {
            sum.set(0);
            for (int j = 0; j < walls.count; j++) {
                if (!withoutLamps || walls.patches[j].kind != LAMP) {
                    sum.plusTimes(pulls[patch * PATCHES + j], walls.patches[j].own);
                }
            }
        }

        /** The side of WANTED on which the light of a patch is. */
        int compareLight(int patch, Walls walls) {
            gather(patch, walls, false);
            product.copy(whole);
            product.times(walls.patches[patch].wanted);
            sum.add(product, true);
            return sum.sign();
        }
    }

    /** The light after some bounces, all patches with one bottom. */
    private static final class Bounces {
        Big[] now = new Big[PATCHES];
        Big[] next = new Big[PATCHES];
        final Big scale = new Big(LONG_ROOM);
        final Big step = new Big(SHORT_ROOM);
        final Big weight = new Big(SHORT_ROOM);
        final Big sum = new Big(LONG_ROOM);
        final Big product = new Big(LONG_ROOM);
        long multiple;

        Bounces() {
            for (int i = 0; i < PATCHES; i++) {
                now[i] = new Big(LONG_ROOM);
                next[i] = new Big(LONG_ROOM);
            }
        }

        void begin(Walls walls, int parts) {
            multiple = 1;
            for (int i = 0; i < walls.count; i++) {
                now[i].set(walls.patches[i].own);
                multiple = commonMultiple(multiple, walls.patches[i].bottom);
            }
            scale.set(1);
            step.set(multiple);
            step.times(parts);
        }

        private static long commonMultiple(long a, int b) {
            long greater = a;
            long smaller = b;
            for (int i = 0; i < MOST_BOTTOM && smaller > 0; i++) {
                long rest = greater % smaller;
                greater = smaller;
                smaller = rest;
            }
            return greater > 0 ? a / greater * b : a;
        }

        void goOn(Walls walls, Table table) {
            product.setProduct(scale, step);
            scale.copy(product);
            for (int i = 0; i < walls.count; i++) {
                bounceAt(i, walls, table);
            }
            Big[] done = now;
            now = next;
            next = done;
        }

        private void bounceAt(int i, Walls walls, Table table) {
            Patch patch = walls.patches[i];
            sum.set(0);
            for (int j = 0; j < walls.count; j++) {
                sum.plusTimes(now[j], table.rows[i][j]);
            }
            weight.set(patch.bottom > 0 ? multiple / patch.bottom * patch.top : 0);
            next[i].setProduct(sum, weight);
            next[i].plusTimes(scale, patch.own);
        }

        boolean reaches(int patch, Walls walls) {
            product.copy(scale);
            product.times(walls.patches[patch].wanted);
            return now[patch].compareSizes(product) >= 0;
        }
    }

    /**
     * The cheapest lamps, the first of several. A point is held by three rows; it begins at no
     * light at all, which nothing can undercut, and as long as a row is broken, that row takes the
     * place of a held one, such that the point is the cheapest for the rows that hold it. With
     * each step it gets dearer, or comes later among those of one price, so no three rows come
     * twice.
     */
    private static final class Cheapest {
        private static final int LOWER_ROWS = PATCHES;
        private static final int UPPER_ROWS = PATCHES + LAMPS;
        private static final int ROWS = PATCHES + 2 * LAMPS;
        private static final int MOST_STEPS = 1000;

        /** Row r says: the owns, each times slopes[r * LAMPS + axis], are needs[r] or more. */
        final Big[] slopes = new Big[ROWS * LAMPS];
        final Big[] needs = new Big[ROWS];
        final int[] lampAt = new int[LAMPS];
        final int[] prices = new int[LAMPS];
        final int[] held = new int[LAMPS];
        /** By axis, then by place in held: where the point goes as that row alone gives way. */
        final Big[] ways = new Big[LAMPS * LAMPS];
        final Big[] costs = new Big[LAMPS];
        final Big[] leans = new Big[LAMPS];
        final Big[] owns = new Big[LAMPS];
        final Big whole = new Big(LONG_ROOM);
        final Big total = new Big(LONG_ROOM);
        final Big sum = new Big(FULL_ROOM);
        final Big product = new Big(FULL_ROOM);
        boolean known;
        boolean found;

        Cheapest() {
            for (int i = 0; i < slopes.length; i++) {
                slopes[i] = new Big(SHORT_ROOM);
            }
            for (int i = 0; i < ROWS; i++) {
                needs[i] = new Big(SHORT_ROOM);
            }
            for (int i = 0; i < ways.length; i++) {
                ways[i] = new Big(PRODUCT_ROOM);
            }
            for (int i = 0; i < LAMPS; i++) {
                costs[i] = new Big(PRODUCT_ROOM);
                leans[i] = new Big(LONG_ROOM);
                owns[i] = new Big(LONG_ROOM);
            }
        }

        void find(Walls walls, Glow glow) {
            if (known) {
                return;
            }
            nameLamps(walls);
            layPatchRows(walls, glow);
            layBounds(walls);
            int broken = NONE;
            int leaving = NONE;
            for (int step = 0; step < MOST_STEPS; step++) {
                place();
                broken = firstBroken();
                leaving = broken == NONE ? NONE : placeToLeave(broken);
                if (leaving == NONE) {
                    break;
                }
                held[leaving] = broken;
            }
            found = broken == NONE;
            addPrices();
            known = true;
        }

        /** The own light of a lamp, times whole. */
        Big ownOf(int patch) {
            for (int axis = 0; axis < LAMPS; axis++) {
                if (lampAt[axis] == patch) {
                    return owns[axis];
                }
            }
            return total;
        }

        private void nameLamps(Walls walls) {
            int axis = 0;
            for (int i = 0; i < walls.count && axis < LAMPS; i++) {
                if (walls.patches[i].kind == LAMP) {
                    lampAt[axis] = i;
                    prices[axis] = walls.patches[i].price;
                    axis++;
                }
            }
            for (int rest = axis; rest < LAMPS; rest++) {
                lampAt[rest] = NONE;
                prices[rest] = 0;
            }
        }

        private void layPatchRows(Walls walls, Glow glow) {
            for (int row = 0; row < walls.count; row++) {
                for (int axis = 0; axis < LAMPS; axis++) {
                    if (lampAt[axis] != NONE) {
                        Big lampPull = glow.pulls[row * PATCHES + lampAt[axis]];
                        slopes[row * LAMPS + axis].copy(lampPull);
                    }
                }
                glow.gather(row, walls, true);
                needs[row].copy(glow.whole);
                needs[row].times(walls.patches[row].wanted);
                needs[row].add(glow.sum, true);
            }
        }

        /** An axis without a lamp is kept at 0 by a most of 0. */
        private void layBounds(Walls walls) {
            for (int axis = 0; axis < LAMPS; axis++) {
                int most = lampAt[axis] == NONE ? 0 : walls.patches[lampAt[axis]].most;
                slopes[(LOWER_ROWS + axis) * LAMPS + axis].set(1);
                slopes[(UPPER_ROWS + axis) * LAMPS + axis].set(-1);
                needs[UPPER_ROWS + axis].set(-most);
                held[axis] = LOWER_ROWS + axis;
            }
        }

        /** A row only comes in for one that leans to it, so whole is never 0 or below. */
        private void place() {
            for (int i = 0; i < LAMPS; i++) {
                for (int axis = 0; axis < LAMPS; axis++) {
                    setWay(i, axis);
                }
            }
            whole.set(0);
            for (int axis = 0; axis < LAMPS; axis++) {
                whole.plusProduct(slopes[held[0] * LAMPS + axis], ways[axis * LAMPS], product);
            }
            for (int axis = 0; axis < LAMPS; axis++) {
                owns[axis].set(0);
                for (int i = 0; i < LAMPS; i++) {
                    owns[axis].plusProduct(ways[axis * LAMPS + i], needs[held[i]], product);
                }
            }
        }

        private void setWay(int i, int axis) {
            int row = held[(i + 1) % LAMPS] * LAMPS;
            int nextRow = held[(i + 2) % LAMPS] * LAMPS;
            int column = (axis + 1) % LAMPS;
            int nextColumn = (axis + 2) % LAMPS;
            Big way = ways[axis * LAMPS + i];
            way.setProduct(slopes[row + column], slopes[nextRow + nextColumn]);
            product.setProduct(slopes[row + nextColumn], slopes[nextRow + column]);
            way.add(product, true);
        }

        private int firstBroken() {
            for (int row = 0; row < ROWS; row++) {
                sum.set(0);
                for (int axis = 0; axis < LAMPS; axis++) {
                    sum.plusProduct(slopes[row * LAMPS + axis], owns[axis], product);
                }
                product.setProduct(needs[row], whole);
                sum.add(product, true);
                if (sum.below) {
                    return row;
                }
            }
            return NONE;
        }

        /** Of the held rows that help the broken one, that which does so at the least price. */
        private int placeToLeave(int broken) {
            for (int i = 0; i < LAMPS; i++) {
                leans[i].set(0);
                costs[i].set(0);
                for (int axis = 0; axis < LAMPS; axis++) {
                    Big way = ways[axis * LAMPS + i];
                    leans[i].plusProduct(slopes[broken * LAMPS + axis], way, product);
                    product.copy(way);
                    product.times(prices[axis]);
                    costs[i].add(product, false);
                }
            }
            int best = NONE;
            for (int i = 0; i < LAMPS; i++) {
                if (leans[i].sign() > 0 && (best == NONE || isBefore(i, best))) {
                    best = i;
                }
            }
            return best;
        }

        private boolean isBefore(int i, int j) {
            int order = compareBy(costs[i], costs[j], i, j);
            for (int axis = 0; axis < LAMPS && order == 0; axis++) {
                order = compareBy(ways[axis * LAMPS + i], ways[axis * LAMPS + j], i, j);
            }
            return order < 0;
        }

        /** Compares a number by the lean of i with one by the lean of j, both above 0. */
        private int compareBy(Big ofI, Big ofJ, int i, int j) {
            sum.setProduct(ofI, leans[j]);
            product.setProduct(ofJ, leans[i]);
            sum.add(product, true);
            return sum.sign();
        }

        private void addPrices() {
            total.set(0);
            for (int axis = 0; axis < LAMPS; axis++) {
                product.copy(owns[axis]);
                product.times(prices[axis]);
                total.add(product, false);
            }
        }
    }
}
