/**
 * What can be seen of an object from outside, written down so that two states can be compared.
 *
 * Between them, boxes and ray tell all of the state exactly. They change the object they look at,
 * so each is given an object of its own.
 */
final class Views {
    /** The ray that the scenes use: it meets all the probes below, so that they tell it exactly. */
    static final int[] ORIGIN = {3, -4, 5};
    static final int[] DIRECTION = {2, 3, 1};

    /** Flat boxes, two across each axis: the times at which both are met give origin and speed there. */
    private static final int[] PROBES = {
        Edges.at(7, 0, 0), Edges.at(0, 31, 31), Edges.at(9, 0, 0), Edges.at(0, 31, 31),
        Edges.at(0, 2, 0), Edges.at(31, 0, 31), Edges.at(0, 8, 0), Edges.at(31, 0, 31),
        Edges.at(0, 0, 7), Edges.at(31, 31, 0), Edges.at(0, 0, 10), Edges.at(31, 31, 0)};

    private Views() {
    }

    /** The corner and the extents of every box. */
    static String boxes(BvhTracer t) {
        int size = t.boxes();
        int[] numbers = new int[2 * size];
        for (int box = 0; box < size; box++) {
            numbers[2 * box] = t.move(box, 0);
        }
        t.origin(0, 0, 0);
        int[] weights = {1024, 32, 1};
        for (int axis = 0; axis < 3; axis++) {
            t.direction(axis == 0 ? 1 : 0, axis == 1 ? 1 : 0, axis == 2 ? 1 : 0);
            for (int box = 0; box < size; box++) {
                numbers[2 * box + 1] += weights[axis] * t.leaveTop(box);
            }
        }
        return boxesOf(numbers);
    }

    /** How boxes with these corners and extents would be seen. */
    static String boxesOf(int... numbers) {
        StringBuilder seen = new StringBuilder("boxes");
        for (int i = 0; i < numbers.length; i += 2) {
            seen.append(' ').append(numbers[i]).append('+').append(numbers[i + 1]);
        }
        return seen.toString();
    }

    /** The times at which the ray meets the probes. */
    static String ray(BvhTracer t) {
        for (int left = t.boxes(); left > 0; left--) {
            t.remove(0);
        }
        StringBuilder seen = new StringBuilder("ray");
        for (int i = 0; i < PROBES.length; i += 2) {
            int box = t.add(PROBES[i], PROBES[i + 1]);
            seen.append(' ').append(t.leaveTop(box)).append('/').append(t.leaveBottom(box));
        }
        return seen.toString();
    }

    /** The answers to every kind of question; the object is only asked. */
    static String questions(BvhTracer t) {
        StringBuilder seen = new StringBuilder("answers");
        int[] plain = {t.boxes(), t.first(), t.firstTop(), t.firstBottom(), t.hits(), t.hitsBefore(7, 2),
            t.blocked(1, 3), t.around(6, 5, 5), t.meeting(Edges.at(6, 5, 5), Edges.at(9, 9, 9)),
            t.touching(), t.nearest(-3, 40, 8)};
        for (int answer : plain) {
            seen.append(' ').append(answer);
        }
        for (int i = 0; i < 14; i++) {
            seen.append(' ').append(t.hit(i)).append(',').append(t.leaveTop(i)).append('/').append(t.leaveBottom(i));
        }
        return seen.toString();
    }
}
