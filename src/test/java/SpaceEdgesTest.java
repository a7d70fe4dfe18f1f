/** Promises 18 to 21, points and boxes in space: a test for each sentence that names an edge. */
public final class SpaceEdgesTest {
    private static final int[] LOW = {10, 11, 12};
    private static final int[] HIGH = {13, 15, 17};

    public static void main(String[] args) {
        aroundFromNoneToAll();
        aroundBorders();
        aroundAnyNumbers();
        meetingFromNoneToAll();
        meetingBorders();
        meetingWidest();
        meetingCorner();
        meetingExtent();
        meetingOrder();
        touchingFromNoneToAll();
        touchingBorders();
        touchingDifferentBoxes();
        nearestBorders();
        nearestOfMany();
        nearestTaken();
        nearestRefused();
        nearestNoBoxes();
        nearestOrder();
        Due.finish();
    }

    /** The box from LOW to HIGH. */
    private static BvhTracer box() {
        return Edges.with(Edges.at(10, 11, 12), Edges.at(3, 4, 5));
    }

    private static int at(int[] point) {
        return Edges.at(point[0], point[1], point[2]);
    }

    private static void aroundFromNoneToAll() {
        Due.about("Promise 18: How many boxes the point is in (from none to 14)");
        Due.is("around(0, 0, 0) with no boxes", new BvhTracer().around(0, 0, 0), 0);
        Due.is("around(0, 0, 13) with boxes taken out", Edges.EMPTIED.make().around(0, 0, 13), 0);
        Due.is("around(0, 0, 13) of the box that is there", Edges.ONE.make().around(0, 0, 13), 1);
        BvhTracer t = new BvhTracer();
        for (int size = 1; size <= 14; size++) {
            t.add(Edges.at(15 - size, 5, 5), Edges.at(2 * size, 0, 0));
            Due.is("around(15, 5, 5) of " + size, t.around(15, 5, 5), size);
            Due.is("around(15, 6, 5) of " + size, t.around(15, 6, 5), 0);
        }
        Edges.changesNothing("around(8, 4, 13)", Edges.FULL, x -> x.around(8, 4, 13), 1);
    }

    private static void aroundBorders() {
        Due.about("Promise 18: How many boxes the point is in (borders belong to it)");
        BvhTracer t = box();
        for (int axis = 0; axis < 3; axis++) {
            for (int[] corner : new int[][] {LOW, HIGH}) {
                isAround(t, Edges.put(corner, axis, LOW[axis] - 1), 0);
                isAround(t, Edges.put(corner, axis, LOW[axis]), 1);
                isAround(t, Edges.put(corner, axis, HIGH[axis]), 1);
                isAround(t, Edges.put(corner, axis, HIGH[axis] + 1), 0);
            }
        }
    }

    private static void isAround(BvhTracer t, int[] point, int due) {
        Due.is("around " + java.util.Arrays.toString(point), t.around(point[0], point[1], point[2]), due);
    }

    private static void aroundAnyNumbers() {
        Due.about("Promise 18: (any whole numbers)");
        for (int axis = 0; axis < 3; axis++) {
            BvhTracer t = box();
            BvhTracer wide = Edges.fourteen(0, 32767);
            for (int far : Edges.beyond(LOW[axis], HIGH[axis])) {
                isAround(t, Edges.put(LOW, axis, far), 0);
            }
            for (int far : Edges.beyond(0, 31)) {
                isAround(wide, Edges.put(LOW, axis, far), 0);
            }
        }
        BvhTracer t = Edges.fourteen(0, 0);
        isAround(t, new int[] {Edges.MIN, Edges.MIN, Edges.MIN}, 0);
        isAround(t, new int[] {Edges.MAX, Edges.MAX, Edges.MAX}, 0);
        isAround(t, new int[] {Edges.MIN, 0, Edges.MAX}, 0);
        Edges.changesNothing("around(MIN, MAX, MIN)", x -> x.around(Edges.MIN, Edges.MAX, Edges.MIN), 0);
        // No range is told for the point, so none is refused: it is only in no box.
        Edges.changesNothing("around(101, 0, 0)", x -> x.around(101, 0, 0), 0);
        Edges.changesNothing("around(-101, -101, -101)", x -> x.around(-101, -101, -101), 0);
    }

    private static void meetingFromNoneToAll() {
        Due.about("Promise 19: How many boxes have a point in common with the box (from none to 14)");
        Due.is("meeting with no boxes", new BvhTracer().meeting(0, 32767), 0);
        Due.is("meeting with boxes taken out", Edges.EMPTIED.make().meeting(0, 32767), 0);
        BvhTracer t = new BvhTracer();
        for (int size = 1; size <= 14; size++) {
            t.add(Edges.at(size, 5, 5), 0);
            Due.is("meeting of " + size, t.meeting(Edges.at(0, 5, 5), Edges.at(31, 0, 0)), size);
            Due.is("meeting of the last of " + size, t.meeting(Edges.at(size, 5, 5), 32767), 1);
            Due.is("meeting beside " + size, t.meeting(Edges.at(0, 6, 5), 32767), 0);
        }
        Edges.changesNothing("meeting(0, 32767)", Edges.FULL, x -> x.meeting(0, 32767), 14);
    }

    private static void meetingBorders() {
        Due.about("Promise 19: a point in common (borders belong to a box)");
        BvhTracer t = box();
        int[] size = {2, 2, 2};
        for (int axis = 0; axis < 3; axis++) {
            Due.is("meeting at the low side", t.meeting(at(Edges.put(LOW, axis, LOW[axis] - 2)), at(size)), 1);
            Due.is("meeting below", t.meeting(at(Edges.put(LOW, axis, LOW[axis] - 3)), at(size)), 0);
            Due.is("meeting at the high side", t.meeting(at(Edges.put(LOW, axis, HIGH[axis])), at(size)), 1);
            Due.is("meeting above", t.meeting(at(Edges.put(LOW, axis, HIGH[axis] + 1)), at(size)), 0);
        }
        Due.is("meeting corner to corner", t.meeting(Edges.at(8, 9, 10), at(size)), 1);
        Due.is("meeting the far corner", t.meeting(at(HIGH), at(size)), 1);
        Due.is("meeting a point in a corner", t.meeting(at(LOW), 0), 1);
        Due.is("meeting a point inside", t.meeting(Edges.at(11, 12, 13), 0), 1);
        Due.is("meeting a greater box", t.meeting(Edges.at(9, 10, 11), Edges.at(9, 9, 9)), 1);
        Due.is("meeting across", t.meeting(Edges.at(0, 12, 13), Edges.at(31, 0, 0)), 1);
    }

    private static void meetingWidest() {
        Due.about("Promise 19: the box given by corner and extent (the least and the greatest)");
        BvhTracer t = Edges.with(0, 0, 32767, 0, 32767, 32767);
        Due.is("meeting(0, 0)", t.meeting(0, 0), 1);
        Due.is("meeting(0, 32767)", t.meeting(0, 32767), 3);
        Due.is("meeting(32767, 0)", t.meeting(32767, 0), 2);
        Due.is("meeting(32767, 32767)", t.meeting(32767, 32767), 2);
        Due.is("meeting(1, 32767)", t.meeting(1, 32767), 2);
        Due.is("meeting(0, 32766)", t.meeting(0, 32766), 1);
    }

    private static void meetingCorner() {
        Due.about("Promise 19: -1 if corner is not in 0 .. 32767");
        for (int corner : Edges.beyond(0, 32767)) {
            Edges.changesNothing("meeting(" + corner + ", 0)", t -> t.meeting(corner, 0), -1);
            Edges.changesNothing("meeting(" + corner + ", 32767)", t -> t.meeting(corner, 32767), -1);
        }
        for (int corner : new int[] {0, 1, 32766, 32767}) {
            Due.is("meeting(" + corner + ", 0)", Edges.with(corner, 0).meeting(corner, 0), 1);
        }
    }

    private static void meetingExtent() {
        Due.about("Promise 19: -2 if extent is not in 0 .. 32767");
        for (int extent : Edges.beyond(0, 32767)) {
            Edges.changesNothing("meeting(0, " + extent + ")", t -> t.meeting(0, extent), -2);
            Edges.changesNothing("meeting(32767, " + extent + ")", t -> t.meeting(32767, extent), -2);
        }
        for (int extent : new int[] {0, 1, 32766, 32767}) {
            Due.is("meeting(0, " + extent + ")", Edges.with(extent, 0).meeting(0, extent), 1);
        }
    }

    private static void meetingOrder() {
        Due.about("Promise 19: the tests are made in the order named");
        Edges.changesNothing("meeting(-1, -1)", t -> t.meeting(-1, -1), -1);
        Edges.changesNothing("meeting(32768, 32768)", t -> t.meeting(32768, 32768), -1);
        Edges.changesNothing("meeting(32768, -1)", t -> t.meeting(32768, -1), -1);
        Edges.changesNothing("meeting(MIN, MAX)", t -> t.meeting(Edges.MIN, Edges.MAX), -1);
    }

    private static void touchingFromNoneToAll() {
        Due.about("Promise 20: How many pairs have a point in common (from none to all of 14)");
        Due.is("touching() of no boxes", new BvhTracer().touching(), 0);
        Due.is("touching() of boxes taken out", Edges.EMPTIED.make().touching(), 0);
        BvhTracer same = new BvhTracer();
        BvhTracer apart = new BvhTracer();
        for (int size = 1; size <= 14; size++) {
            same.add(0, 0);
            apart.add(Edges.at(2 * size, 0, 0), Edges.at(1, 31, 31));
            Due.is("touching() of " + size + " that are the same", same.touching(), size * (size - 1) / 2);
            Due.is("touching() of " + size + " that are apart", apart.touching(), 0);
        }
        same.remove(13);
        Due.is("touching() after remove", same.touching(), 78);
    }

    private static void touchingBorders() {
        Due.about("Promise 20: a point in common (borders belong to a box)");
        int low = at(LOW);
        int size = Edges.at(3, 4, 5);
        for (int axis = 0; axis < 3; axis++) {
            int side = HIGH[axis];
            int on = at(Edges.put(LOW, axis, side));
            int beyond = at(Edges.put(LOW, axis, side + 1));
            Due.is("touching() on side " + axis, Edges.with(low, size, on, size).touching(), 1);
            Due.is("touching() on side " + axis + ", other way", Edges.with(on, size, low, size).touching(), 1);
            Due.is("touching() beyond " + axis, Edges.with(low, size, beyond, size).touching(), 0);
            Due.is("touching() beyond " + axis + ", other way", Edges.with(beyond, size, low, size).touching(), 0);
        }
        Due.is("touching() at a corner", Edges.with(low, size, at(HIGH), 0).touching(), 1);
        Due.is("touching() of points", Edges.with(low, 0, low, 0).touching(), 1);
        Due.is("touching() of points apart", Edges.with(low, 0, low + 1, 0).touching(), 0);
        Due.is("touching() of one in the other", Edges.with(0, 32767, low, 0).touching(), 1);
    }

    private static void touchingDifferentBoxes() {
        Due.about("Promise 20: pairs of different boxes (a box is not a pair with itself)");
        Due.is("touching() of one box", Edges.with(0, 32767).touching(), 0);
        Due.is("touching() of two apart", Edges.with(0, 0, 32767, 0).touching(), 0);
        // Two boxes at the same place are still two boxes, and each pair counts once.
        Due.is("touching() of two at one place", Edges.with(7, 7, 7, 7).touching(), 1);
        Due.is("touching() of three in a chain", Edges.with(0, 1, 1, 1, 2, 1).touching(), 2);
        BvhTracer t = Edges.fourteen(0, 0);
        t.move(13, 32767);
        t.move(0, 32766);
        Due.is("touching() of 12 of 14", t.touching(), 66);
        Edges.changesNothing("touching()", Edges.ONE, x -> x.touching(), 0);
    }

    private static int nearest(BvhTracer t, int[] point) {
        return t.nearest(point[0], point[1], point[2]);
    }

    private static void nearestBorders() {
        Due.about("Promise 21: to a point of a box (0 in it and on its borders)");
        BvhTracer t = box();
        for (int axis = 0; axis < 3; axis++) {
            for (int[] corner : new int[][] {LOW, HIGH}) {
                Due.is("nearest at the low side", nearest(t, Edges.put(corner, axis, LOW[axis])), 0);
                Due.is("nearest below", nearest(t, Edges.put(corner, axis, LOW[axis] - 1)), 1);
                Due.is("nearest farther below", nearest(t, Edges.put(corner, axis, LOW[axis] - 5)), 25);
                Due.is("nearest at the high side", nearest(t, Edges.put(corner, axis, HIGH[axis])), 0);
                Due.is("nearest above", nearest(t, Edges.put(corner, axis, HIGH[axis] + 1)), 1);
                Due.is("nearest farther above", nearest(t, Edges.put(corner, axis, HIGH[axis] + 6)), 36);
            }
        }
        Due.is("nearest inside", t.nearest(11, 13, 15), 0);
        Due.is("nearest off a low corner", t.nearest(9, 10, 11), 3);
        Due.is("nearest off a high corner", t.nearest(14, 16, 18), 3);
    }

    private static void nearestOfMany() {
        Due.about("Promise 21: The least square of a distance (whichever of 14 boxes has it)");
        for (int near = 0; near < 14; near++) {
            BvhTracer t = Edges.fourteen(Edges.at(31, 31, 31), 0);
            t.move(near, Edges.at(2, 3, 4));
            Due.is("nearest by box " + near, t.nearest(0, 0, 0), 29);
        }
        BvhTracer t = Edges.with(Edges.at(2, 3, 4), 0, 0, 0);
        t.remove(1);
        Due.is("nearest after remove", t.nearest(0, 0, 0), 29);
        Due.is("nearest of 14 around it", Edges.fourteen(0, 32767).nearest(31, 0, 31), 0);
    }

    private static void nearestTaken() {
        Due.about("Promise 21: each -100 .. 100 (these are)");
        for (int axis = 0; axis < 3; axis++) {
            BvhTracer t = Edges.with(Edges.at(31, 31, 31), Edges.at(31, 31, 31));
            for (int edge : new int[] {-100, -99}) {
                int[] point = Edges.put(new int[] {31, 31, 31}, axis, edge);
                Due.is("nearest at " + edge, nearest(t, point), (31 - edge) * (31 - edge));
            }
            for (int edge : new int[] {99, 100}) {
                int[] point = Edges.put(new int[] {31, 31, 31}, axis, edge);
                Due.is("nearest at " + edge, nearest(t, point), (edge - 62) * (edge - 62));
            }
        }
        BvhTracer far = Edges.with(32767, 0);
        Due.is("nearest(-100, -100, -100)", far.nearest(-100, -100, -100), 3 * 131 * 131);
        Due.is("nearest(100, 100, 100)", far.nearest(100, 100, 100), 3 * 69 * 69);
        Due.is("nearest(100, -100, 100)", far.nearest(100, -100, 100), 131 * 131 + 2 * 69 * 69);
    }

    private static void nearestRefused() {
        Due.about("Promise 21: -1 if a coordinate is not in -100 .. 100");
        int[][] besides = {{0, 0, 0}, {100, -100, 100}};
        for (int wrong : Edges.beyond(-100, 100)) {
            for (int axis = 0; axis < 3; axis++) {
                for (int[] beside : besides) {
                    int[] point = Edges.put(beside, axis, wrong);
                    String what = "nearest " + java.util.Arrays.toString(point);
                    Edges.changesNothing(what, t -> nearest(t, point), -1);
                }
            }
        }
        Edges.changesNothing("nearest(101, -101, 101)", t -> t.nearest(101, -101, 101), -1);
        Edges.changesNothing("nearest(MIN, MAX, MIN)", t -> t.nearest(Edges.MIN, Edges.MAX, Edges.MIN), -1);
    }

    private static void nearestNoBoxes() {
        Due.about("Promise 21: -2 if there are no boxes");
        for (Edges.Scene scene : new Edges.Scene[] {Edges.NONE, Edges.EMPTIED}) {
            Edges.changesNothing("nearest(0, 0, 0)", scene, t -> t.nearest(0, 0, 0), -2);
            Edges.changesNothing("nearest(0, 0, 13)", scene, t -> t.nearest(0, 0, 13), -2);
            Edges.changesNothing("nearest(-100, 100, -100)", scene, t -> t.nearest(-100, 100, -100), -2);
        }
        BvhTracer t = new BvhTracer();
        Due.is("nearest(1, 0, 0) before add", t.nearest(1, 0, 0), -2);
        t.add(0, 0);
        Due.is("nearest(1, 0, 0) after add", t.nearest(1, 0, 0), 1);
        t.remove(0);
        Due.is("nearest(1, 0, 0) after remove", t.nearest(1, 0, 0), -2);
    }

    private static void nearestOrder() {
        Due.about("Promise 21: the tests are made in the order named");
        for (Edges.Scene scene : new Edges.Scene[] {Edges.NONE, Edges.EMPTIED}) {
            Edges.changesNothing("nearest(101, 0, 0)", scene, t -> t.nearest(101, 0, 0), -1);
            Edges.changesNothing("nearest(0, -101, 0)", scene, t -> t.nearest(0, -101, 0), -1);
            Edges.changesNothing("nearest(0, 0, MIN)", scene, t -> t.nearest(0, 0, Edges.MIN), -1);
        }
    }
}
