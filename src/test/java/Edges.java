import java.util.ArrayList;
import java.util.List;
import java.util.function.Supplier;
import java.util.function.ToIntFunction;

/** What the tests of edges share: scenes, values beyond a range, and calls that must change nothing. */
final class Edges {
    static final int MIN = Integer.MIN_VALUE;
    static final int MAX = Integer.MAX_VALUE;

    /** A way to make an object with so many boxes. */
    record Scene(String name, int size, Supplier<BvhTracer> maker) {
        BvhTracer make() {
            return maker.get();
        }
    }

    static final Scene NONE = new Scene("no boxes", 0, () -> grown(0));
    static final Scene ONE = new Scene("one box", 1, () -> grown(1));
    static final Scene SOME = new Scene("five boxes", 5, () -> grown(5));
    static final Scene ALMOST = new Scene("13 boxes", 13, () -> grown(13));
    static final Scene FULL = new Scene("14 boxes", 14, () -> grown(14));
    // What boxes leave behind in the object must not be taken for boxes.
    static final Scene THINNED = new Scene("14 boxes less 9", 5, () -> thinned(5));
    static final Scene EMPTIED = new Scene("14 boxes less 14", 0, () -> thinned(0));
    static final List<Scene> ALL = List.of(NONE, ONE, SOME, ALMOST, FULL, THINNED, EMPTIED);

    private Edges() {
    }

    static int at(int x, int y, int z) {
        return 1024 * x + 32 * y + z;
    }

    /** Corner of the scenes' box of this number; all differ, and their ray meets 4 to 9, but first 5. */
    static int cornerOf(int box) {
        return at(2 * box, box, 13 - box);
    }

    static int extentOf(int box) {
        return at(box * 5 % 7, box * 3 % 8 + 10, box % 5 + 8);
    }

    /** The numbers of the scenes' boxes from one to another, as Views.boxesOf takes them. */
    static int[] numbersOf(int from, int to) {
        int[] numbers = new int[2 * (to - from)];
        for (int box = from; box < to; box++) {
            numbers[2 * (box - from)] = cornerOf(box);
            numbers[2 * (box - from) + 1] = extentOf(box);
        }
        return numbers;
    }

    private static BvhTracer grown(int size) {
        BvhTracer t = new BvhTracer();
        aim(t, Views.ORIGIN, Views.DIRECTION);
        for (int box = 0; box < size; box++) {
            Due.is("scene's add", t.add(cornerOf(box), extentOf(box)), box);
        }
        return t;
    }

    private static BvhTracer thinned(int size) {
        BvhTracer t = grown(14);
        for (int left = 13; left >= size; left--) {
            Due.is("scene's remove", t.remove(left), left);
        }
        return t;
    }

    /** An object with boxes of these corners and extents. */
    static BvhTracer with(int... numbers) {
        BvhTracer t = new BvhTracer();
        for (int i = 0; i < numbers.length; i += 2) {
            Due.is("scene's add", t.add(numbers[i], numbers[i + 1]), i / 2);
        }
        return t;
    }

    /** An object with 14 boxes that are all the same. */
    static BvhTracer fourteen(int corner, int extent) {
        BvhTracer t = with(corner, extent);
        Due.is("scene's row", t.row(0, 0, 13), 14);
        return t;
    }

    static void aim(BvhTracer t, int[] origin, int[] direction) {
        Due.is("aim's origin", t.origin(origin[0], origin[1], origin[2]), 0);
        Due.is("aim's direction", t.direction(direction[0], direction[1], direction[2]), 0);
    }

    static void aim(BvhTracer t, int x, int y, int z, int dx, int dy, int dz) {
        aim(t, new int[] {x, y, z}, new int[] {dx, dy, dz});
    }

    /** The same three numbers with one of them put in another's place. */
    static int[] put(int[] numbers, int axis, int value) {
        int[] changed = numbers.clone();
        changed[axis] = value;
        return changed;
    }

    /**
     * Numbers that are not in the range: the first on either side, the least and greatest int, and
     * some that would be in the range if their higher bits were lost.
     */
    static int[] beyond(int least, int greatest) {
        List<Integer> found = new ArrayList<>(List.of(least - 1, greatest + 1, MIN, MIN + 1, MAX - 1, MAX));
        for (int bit : new int[] {5, 8, 10, 15, 16, 24, 31}) {
            for (int base : new int[] {least, (least + greatest) / 2, greatest}) {
                int up = base + (1 << bit);
                int down = base - (1 << bit);
                if (up < least || up > greatest) {
                    found.add(up);
                }
                if (down < least || down > greatest) {
                    found.add(down);
                }
            }
        }
        return found.stream().mapToInt(Integer::intValue).distinct().toArray();
    }

    /** Numbers that no box of so many has. */
    static int[] notGood(int size) {
        return beyond(0, size - 1);
    }

    /** The call answers what is due, and leaves boxes, ray and all answers as they were. */
    static void changesNothing(String call, Scene scene, ToIntFunction<BvhTracer> made, int due) {
        String what = call + " with " + scene.name();
        BvhTracer asked = scene.make();
        String before = Views.questions(asked);
        Due.is(what, made.applyAsInt(asked), due);
        Due.same("after " + what + ", all", Views.questions(asked), before);
        BvhTracer opened = scene.make();
        made.applyAsInt(opened);
        Due.same("after " + what + ", the scene", Views.boxes(opened), Views.boxes(scene.make()));
        BvhTracer followed = scene.make();
        made.applyAsInt(followed);
        Due.same("after " + what + ", the ray", Views.ray(followed), Views.ray(scene.make()));
    }

    /** The same in every scene. */
    static void changesNothing(String call, ToIntFunction<BvhTracer> made, int due) {
        for (Scene scene : ALL) {
            changesNothing(call, scene, made, due);
        }
    }
}
