import java.util.ArrayList;
import java.util.List;

/**
 * The document's words done the slow way, to compare the class with.
 *
 * It shares no idea with the class: times are tried one by one (0 and every crossing of a border),
 * and each is looked at by putting the ray's point at that time into the box.
 */
final class Model {
    /** Low corner and high corner of each box. */
    final List<int[]> boxes = new ArrayList<>();
    int[] origin = {0, 0, 0};
    int[] direction = {1, 0, 0};

    static int[] parts(int packed) {
        return new int[] {packed / 1024, packed / 32 % 32, packed % 32};
    }

    static int[] boxOf(int corner, int extent) {
        int[] c = parts(corner);
        int[] e = parts(extent);
        return new int[] {c[0], c[1], c[2], c[0] + e[0], c[1] + e[1], c[2] + e[2]};
    }

    private static boolean outside(int value, int least, int greatest) {
        return value < least || value > greatest;
    }

    private static boolean farOff(int size, int... values) {
        for (int value : values) {
            if (outside(value, -size, size)) {
                return true;
            }
        }
        return false;
    }

    private boolean isBad(int box) {
        return outside(box, 0, boxes.size() - 1);
    }

    int add(int corner, int extent) {
        if (outside(corner, 0, 32767)) {
            return -1;
        }
        if (outside(extent, 0, 32767)) {
            return -2;
        }
        if (boxes.size() == 14) {
            return -3;
        }
        boxes.add(boxOf(corner, extent));
        return boxes.size() - 1;
    }

    int row(int box, int dx, int count) {
        if (isBad(box)) {
            return -1;
        }
        if (outside(dx, -31, 31)) {
            return -2;
        }
        if (outside(count, 1, 13)) {
            return -3;
        }
        int k = 1;
        while (k <= count && boxes.size() < 14 && !outside(boxes.get(box)[0] + k * dx, 0, 31)) {
            int[] copy = boxes.get(box).clone();
            copy[0] += k * dx;
            copy[3] += k * dx;
            boxes.add(copy);
            k++;
        }
        return boxes.size();
    }

    int remove(int box) {
        if (isBad(box)) {
            return -1;
        }
        boxes.remove(box);
        return boxes.size();
    }

    int move(int box, int corner) {
        if (isBad(box)) {
            return -1;
        }
        if (outside(corner, 0, 32767)) {
            return -2;
        }
        int[] b = boxes.get(box);
        int before = b[0] * 1024 + b[1] * 32 + b[2];
        int[] c = parts(corner);
        boxes.set(box, new int[] {c[0], c[1], c[2],
            c[0] + b[3] - b[0], c[1] + b[4] - b[1], c[2] + b[5] - b[2]});
        return before;
    }

    int origin(int x, int y, int z) {
        if (farOff(100, x, y, z)) {
            return -1;
        }
        origin = new int[] {x, y, z};
        return 0;
    }

    int direction(int x, int y, int z) {
        if (farOff(20, x, y, z)) {
            return -1;
        }
        if (x == 0 && y == 0 && z == 0) {
            return -2;
        }
        direction = new int[] {x, y, z};
        return 0;
    }

    /** The least (want = -1) or greatest (want = 1) time in the box as a fraction in lowest terms, or null. */
    private long[] time(int[] box, int want) {
        long[] best = null;
        for (int i = -1; i < 6; i++) {
            long top = 0;
            long bottom = 1;
            if (i >= 0) {
                top = box[i] - origin[i % 3];
                bottom = direction[i % 3];
            }
            if (bottom < 0) {
                top = -top;
                bottom = -bottom;
            }
            if (bottom == 0 || top < 0 || !holdsPointAt(box, top, bottom)) {
                continue;
            }
            if (best == null || compare(top, bottom, best) * want > 0) {
                best = new long[] {top, bottom};
            }
        }
        return best == null ? null : lowest(best);
    }

    private boolean holdsPointAt(int[] box, long top, long bottom) {
        for (int axis = 0; axis < 3; axis++) {
            long scaled = origin[axis] * bottom + direction[axis] * top;
            if (scaled < box[axis] * bottom || scaled > box[axis + 3] * bottom) {
                return false;
            }
        }
        return true;
    }

    private static int compare(long top, long bottom, long[] other) {
        return Long.compare(top * other[1], other[0] * bottom);
    }

    private static long[] lowest(long[] fraction) {
        long a = fraction[0];
        long b = fraction[1];
        while (b != 0) {
            long rest = a % b;
            a = b;
            b = rest;
        }
        return new long[] {fraction[0] / a, fraction[1] / a};
    }

    private List<Integer> order() {
        List<Integer> hit = new ArrayList<>();
        for (int box = 0; box < boxes.size(); box++) {
            if (time(boxes.get(box), -1) != null) {
                hit.add(box);
            }
        }
        // A stable sort: boxes entered at the same time keep the order of their numbers.
        hit.sort((a, b) -> {
            long[] first = time(boxes.get(a), -1);
            return compare(first[0], first[1], time(boxes.get(b), -1));
        });
        return hit;
    }

    int first() {
        return hit(0);
    }

    int firstTop() {
        return first() < 0 ? -1 : (int) time(boxes.get(first()), -1)[0];
    }

    int firstBottom() {
        return first() < 0 ? 0 : (int) time(boxes.get(first()), -1)[1];
    }

    int hit(int i) {
        List<Integer> order = order();
        return outside(i, 0, order.size() - 1) ? -1 : order.get(i);
    }

    int hits() {
        return order().size();
    }

    int hitsBefore(int top, int bottom) {
        if (outside(top, 0, 1000)) {
            return -1;
        }
        if (outside(bottom, 1, 100)) {
            return -2;
        }
        int found = 0;
        for (int[] box : boxes) {
            long[] entered = time(box, -1);
            if (entered != null && compare(top, bottom, entered) >= 0) {
                found++;
            }
        }
        return found;
    }

    int blocked(int top, int bottom) {
        return Math.min(1, hitsBefore(top, bottom));
    }

    int leave(int box, int which) {
        if (isBad(box)) {
            return -1;
        }
        long[] left = time(boxes.get(box), 1);
        return left == null ? -2 : (int) left[which];
    }

    int around(int x, int y, int z) {
        int found = 0;
        for (int[] b : boxes) {
            if (!outside(x, b[0], b[3]) && !outside(y, b[1], b[4]) && !outside(z, b[2], b[5])) {
                found++;
            }
        }
        return found;
    }

    /** Corners are whole numbers, so boxes that share a point share a whole-numbered one. */
    private static boolean share(int[] a, int[] b) {
        for (int axis = 0; axis < 3; axis++) {
            boolean found = false;
            for (int at = a[axis]; at <= a[axis + 3]; at++) {
                found |= !outside(at, b[axis], b[axis + 3]);
            }
            if (!found) {
                return false;
            }
        }
        return true;
    }

    int meeting(int corner, int extent) {
        if (outside(corner, 0, 32767)) {
            return -1;
        }
        if (outside(extent, 0, 32767)) {
            return -2;
        }
        int found = 0;
        for (int[] box : boxes) {
            if (share(box, boxOf(corner, extent))) {
                found++;
            }
        }
        return found;
    }

    int touching() {
        int found = 0;
        for (int a = 0; a < boxes.size(); a++) {
            for (int b = 0; b < a; b++) {
                if (share(boxes.get(a), boxes.get(b))) {
                    found++;
                }
            }
        }
        return found;
    }

    int nearest(int x, int y, int z) {
        if (farOff(100, x, y, z)) {
            return -1;
        }
        if (boxes.isEmpty()) {
            return -2;
        }
        int[] point = {x, y, z};
        int least = Integer.MAX_VALUE;
        for (int[] box : boxes) {
            int sum = 0;
            for (int axis = 0; axis < 3; axis++) {
                int side = Integer.MAX_VALUE;
                for (int at = box[axis]; at <= box[axis + 3]; at++) {
                    side = Math.min(side, (at - point[axis]) * (at - point[axis]));
                }
                sum += side;
            }
            least = Math.min(least, sum);
        }
        return least;
    }
}
