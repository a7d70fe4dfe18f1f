/**
 * Rays through a scene of boxes with whole-numbered corners, with exact hits.
 *
 * Times on the ray are kept as whole numbers of ticks. A tick is so short a part of t that every
 * time at which the ray can meet a box's border is a whole number of them, so that times are
 * compared without fractions and nothing is ever rounded.
 */
public final class BvhTracer {
    private static final int MOST_BOXES = 14;
    private static final int MOST_COPIES = 13;
    private static final int AXES = 3;

    private static final int BITS = 5;
    private static final int GREATEST_PART = 31;
    private static final int GREATEST_PACKED = 32767;
    private static final int PACKED_X = 1024;

    private static final int FARTHEST = 100;
    private static final int FASTEST = 20;
    private static final int GREATEST_TOP = 1000;
    private static final int GREATEST_BOTTOM = 100;

    // A border is at most 162 away and a step takes at most 20 * 20 ticks, so no real time is as late.
    private static final int NEVER = 1000000;

    private final int[] corners = new int[MOST_BOXES];
    private final int[] extents = new int[MOST_BOXES];
    private int boxCount;

    private final int[] start = new int[AXES];
    private final int[] heading = new int[AXES];
    private final int[] ticksPerStep = new int[AXES];
    private int ticksPerUnit;

    public BvhTracer() {
        boxCount = 0;
        head(1, 0, 0);
    }

    public int add(int corner, int extent) {
        if (!isPacked(corner)) {
            return -1;
        }
        if (!isPacked(extent)) {
            return -2;
        }
        if (boxCount >= MOST_BOXES) {
            return -3;
        }
        append(corner, extent);
        return boxCount - 1;
    }

    public int row(int box, int dx, int count) {
        if (!isGood(box)) {
            return -1;
        }
        if (!isWithin(dx, -GREATEST_PART, GREATEST_PART)) {
            return -2;
        }
        if (!isWithin(count, 1, MOST_COPIES)) {
            return -3;
        }
        int x = low(box, 0);
        for (int k = 1; k <= count; k++) {
            if (boxCount >= MOST_BOXES || !isWithin(x + k * dx, 0, GREATEST_PART)) {
                break;
            }
            append(corners[box] + k * dx * PACKED_X, extents[box]);
        }
        return boxCount;
    }

    public int remove(int box) {
        if (!isGood(box)) {
            return -1;
        }
        for (int i = box; i < boxCount - 1; i++) {
            corners[i] = corners[i + 1];
            extents[i] = extents[i + 1];
        }
        boxCount--;
        return boxCount;
    }

    public int move(int box, int corner) {
        if (!isGood(box)) {
            return -1;
        }
        if (!isPacked(corner)) {
            return -2;
        }
        int before = corners[box];
        corners[box] = corner;
        return before;
    }

    public int origin(int x, int y, int z) {
        if (!areAllWithin(x, y, z, FARTHEST)) {
            return -1;
        }
        start[0] = x;
        start[1] = y;
        start[2] = z;
        return 0;
    }

    public int direction(int x, int y, int z) {
        if (!areAllWithin(x, y, z, FASTEST)) {
            return -1;
        }
        if (x == 0 && y == 0 && z == 0) {
            return -2;
        }
        head(x, y, z);
        return 0;
    }

    public int boxes() {
        return boxCount;
    }

    public int first() {
        return firstBox();
    }

    public int firstTop() {
        int box = firstBox();
        if (box < 0) {
            return -1;
        }
        int ticks = entryTicks(box);
        return lowestTop(ticks);
    }

    public int firstBottom() {
        int box = firstBox();
        if (box < 0) {
            return 0;
        }
        int ticks = entryTicks(box);
        return lowestBottom(ticks);
    }

    public int hit(int i) {
        for (int box = 0; box < boxCount; box++) {
            int ticks = entryTicks(box);
            if (ticks < NEVER && countAhead(box, ticks) == i) {
                return box;
            }
        }
        return -1;
    }

    public int hits() {
        int found = 0;
        for (int box = 0; box < boxCount; box++) {
            if (entryTicks(box) < NEVER) {
                found++;
            }
        }
        return found;
    }

    public int hitsBefore(int top, int bottom) {
        if (!isWithin(top, 0, GREATEST_TOP)) {
            return -1;
        }
        if (!isWithin(bottom, 1, GREATEST_BOTTOM)) {
            return -2;
        }
        int found = 0;
        for (int box = 0; box < boxCount; box++) {
            int ticks = entryTicks(box);
            // NEVER has a test of its own, as top / bottom may be a later time than it.
            if (ticks < NEVER && ticks * bottom <= top * ticksPerUnit) {
                found++;
            }
        }
        return found;
    }

    public int blocked(int top, int bottom) {
        // The ray has a point in a box by some time just if it has entered the box by then.
        int answer = hitsBefore(top, bottom);
        return answer > 0 ? 1 : answer;
    }

    public int leaveTop(int box) {
        if (!isGood(box)) {
            return -1;
        }
        if (entryTicks(box) == NEVER) {
            return -2;
        }
        int ticks = exitTicks(box);
        return lowestTop(ticks);
    }

    public int leaveBottom(int box) {
        if (!isGood(box)) {
            return -1;
        }
        if (entryTicks(box) == NEVER) {
            return -2;
        }
        int ticks = exitTicks(box);
        return lowestBottom(ticks);
    }

    public int around(int x, int y, int z) {
        int found = 0;
        for (int box = 0; box < boxCount; box++) {
            if (spans(box, 0, x) && spans(box, 1, y) && spans(box, 2, z)) {
                found++;
            }
        }
        return found;
    }

    public int meeting(int corner, int extent) {
        if (!isPacked(corner)) {
            return -1;
        }
        if (!isPacked(extent)) {
            return -2;
        }
        int found = 0;
        for (int box = 0; box < boxCount; box++) {
            if (meets(box, corner, extent)) {
                found++;
            }
        }
        return found;
    }

    public int touching() {
        int found = 0;
        for (int box = 0; box < boxCount; box++) {
            for (int other = box + 1; other < boxCount; other++) {
                if (meets(box, corners[other], extents[other])) {
                    found++;
                }
            }
        }
        return found;
    }

    public int nearest(int x, int y, int z) {
        if (!areAllWithin(x, y, z, FARTHEST)) {
            return -1;
        }
        if (boxCount == 0) {
            return -2;
        }
        int least = squareOfDistance(0, x, y, z);
        for (int box = 1; box < boxCount; box++) {
            int square = squareOfDistance(box, x, y, z);
            if (square < least) {
                least = square;
            }
        }
        return least;
    }

    private static boolean isWithin(int value, int least, int greatest) {
        return least <= value && value <= greatest;
    }

    private static boolean areAllWithin(int x, int y, int z, int size) {
        return isWithin(x, -size, size) && isWithin(y, -size, size) && isWithin(z, -size, size);
    }

    private static boolean isPacked(int packed) {
        return isWithin(packed, 0, GREATEST_PACKED);
    }

    private static int part(int packed, int axis) {
        return (packed >> (BITS * (AXES - 1 - axis))) & GREATEST_PART;
    }

    private boolean isGood(int box) {
        return 0 <= box && box < boxCount;
    }

    private void append(int corner, int extent) {
        corners[boxCount] = corner;
        extents[boxCount] = extent;
        boxCount++;
    }

    private int low(int box, int axis) {
        return part(corners[box], axis);
    }

    private int high(int box, int axis) {
        return part(corners[box], axis) + part(extents[box], axis);
    }

    private void head(int x, int y, int z) {
        heading[0] = x;
        heading[1] = y;
        heading[2] = z;
        int speedX = speed(x);
        int speedY = speed(y);
        int speedZ = speed(z);
        // The product of the speeds is a common denominator of all times at borders.
        ticksPerUnit = speedX * speedY * speedZ;
        ticksPerStep[0] = speedY * speedZ;
        ticksPerStep[1] = speedX * speedZ;
        ticksPerStep[2] = speedX * speedY;
    }

    private static int speed(int along) {
        if (along == 0) {
            // An axis on which the ray stands still has no times of its own to make room for.
            return 1;
        }
        return along < 0 ? -along : along;
    }

    /** The tick at which the ray enters the box, or NEVER if it does not hit it. */
    private int entryTicks(int box) {
        int latest = 0;
        int earliest = NEVER;
        for (int axis = 0; axis < AXES; axis++) {
            int least = low(box, axis);
            int greatest = high(box, axis);
            int entered = slabEntry(axis, least, greatest);
            int left = slabExit(axis, least, greatest);
            latest = entered > latest ? entered : latest;
            earliest = left < earliest ? left : earliest;
        }
        return latest <= earliest ? latest : NEVER;
    }

    /** The tick at which the ray leaves a box that it hits. */
    private int exitTicks(int box) {
        int earliest = NEVER;
        for (int axis = 0; axis < AXES; axis++) {
            int least = low(box, axis);
            int greatest = high(box, axis);
            int left = slabExit(axis, least, greatest);
            earliest = left < earliest ? left : earliest;
        }
        return earliest;
    }

    private int slabEntry(int axis, int least, int greatest) {
        if (heading[axis] > 0) {
            return (least - start[axis]) * ticksPerStep[axis];
        }
        if (heading[axis] < 0) {
            return (start[axis] - greatest) * ticksPerStep[axis];
        }
        return isWithin(start[axis], least, greatest) ? 0 : NEVER;
    }

    private int slabExit(int axis, int least, int greatest) {
        if (heading[axis] > 0) {
            return (greatest - start[axis]) * ticksPerStep[axis];
        }
        if (heading[axis] < 0) {
            return (start[axis] - least) * ticksPerStep[axis];
        }
        // A ray that stands still on this axis never leaves by it; another axis ends its stay.
        return NEVER;
    }

    private int firstBox() {
        int best = -1;
        int earliest = NEVER;
        for (int box = 0; box < boxCount; box++) {
            int ticks = entryTicks(box);
            if (ticks < earliest) {
                best = box;
                earliest = ticks;
            }
        }
        return best;
    }

    private int countAhead(int box, int ticks) {
        int ahead = 0;
        for (int other = 0; other < boxCount; other++) {
            int otherTicks = entryTicks(other);
            if (otherTicks < ticks || otherTicks == ticks && other < box) {
                ahead++;
            }
        }
        return ahead;
    }

    private int lowestTop(int ticks) {
        return ticks / commonDivisor(ticks);
    }

    private int lowestBottom(int ticks) {
        return ticksPerUnit / commonDivisor(ticks);
    }

    /** The greatest number, 1 or more, that divides both ticks and ticksPerUnit. */
    private int commonDivisor(int ticks) {
        for (int divisor = ticksPerUnit; divisor > 1; divisor--) {
            if (ticks % divisor == 0 && ticksPerUnit % divisor == 0) {
                return divisor;
            }
        }
        return 1;
    }

    private boolean spans(int box, int axis, int value) {
        int least = low(box, axis);
        int greatest = high(box, axis);
        return isWithin(value, least, greatest);
    }

    private boolean meets(int box, int corner, int extent) {
        for (int axis = 0; axis < AXES; axis++) {
            int least = part(corner, axis);
            int greatest = least + part(extent, axis);
            if (low(box, axis) > greatest || least > high(box, axis)) {
                return false;
            }
        }
        return true;
    }

    private int squareOfDistance(int box, int x, int y, int z) {
        int gapX = gap(box, 0, x);
        int gapY = gap(box, 1, y);
        int gapZ = gap(box, 2, z);
        return gapX * gapX + gapY * gapY + gapZ * gapZ;
    }

    private int gap(int box, int axis, int value) {
        int least = low(box, axis);
        int greatest = high(box, axis);
        if (value < least) {
            return least - value;
        }
        return value > greatest ? value - greatest : 0;
    }
}
