import java.util.Arrays;
import java.util.function.ToIntFunction;

/** The document's Terms: a test for each sentence that names an edge. */
public final class TermsEdgesTest {
    private static final int[] LOW = {10, 11, 12};
    private static final int[] HIGH = {13, 15, 17};
    private static final int[] WEIGHTS = {1024, 32, 1};

    public static void main(String[] args) {
        atMostFourteen();
        numberedInTheirOrder();
        lowCornerParts();
        extentParts();
        writtenAsOneNumber();
        bordersBelong();
        bordersBelongToTheRaysHits();
        boxMayBeFlat();
        originRange();
        directionRange();
        rayAtFirst();
        timeIsNotNegative();
        hitsIfSomePointIsIn();
        hitsByTheSlightestTouch();
        entersAtTheLeast();
        leavesAtTheGreatest();
        lesserTimeComesFirst();
        sameTimeLesserNumber();
        lowestTerms();
        denominatorPositive();
        zeroIsZeroOverOne();
        noQuestionChangesAnything();
        refusedCallsChangeNothing();
        goodNumbers();
        fiveHundredAndTwelveCalls();
        Due.finish();
    }

    /** When the ray enters and leaves box 0 of an object whose only box it is. */
    private static void passes(String what, BvhTracer t, String enter, String leave) {
        Due.same(what + ": entered", t.firstTop() + "/" + t.firstBottom(), enter);
        Due.same(what + ": left", t.leaveTop(0) + "/" + t.leaveBottom(0), leave);
        Due.is(what + ": first()", t.first(), 0);
        Due.is(what + ": hits()", t.hits(), 1);
        Due.is(what + ": hit(0)", t.hit(0), 0);
    }

    private static void misses(String what, BvhTracer t) {
        Due.same(what + ": entered", t.firstTop() + "/" + t.firstBottom(), "-1/0");
        Due.same(what + ": left", t.leaveTop(0) + "/" + t.leaveBottom(0), "-2/-2");
        Due.is(what + ": first()", t.first(), -1);
        Due.is(what + ": hits()", t.hits(), 0);
        Due.is(what + ": hit(0)", t.hit(0), -1);
        Due.is(what + ": hitsBefore(1000, 1)", t.hitsBefore(1000, 1), 0);
        Due.is(what + ": blocked(1000, 1)", t.blocked(1000, 1), 0);
    }

    private static BvhTracer box() {
        return Edges.with(Edges.at(10, 11, 12), Edges.at(3, 4, 5));
    }

    private static int[] along(int axis, int speed) {
        return Edges.put(new int[3], axis, speed);
    }

    private static void atMostFourteen() {
        Due.about("Terms: There are at most 14 BOXES");
        BvhTracer added = new BvhTracer();
        for (int i = 0; i < 20; i++) {
            Due.is("add", added.add(0, 0), i < 14 ? i : -3);
        }
        Due.is("boxes() after 20 adds", added.boxes(), 14);
        BvhTracer rowed = Edges.with(0, 0, 0, 0);
        Due.is("row to 14", rowed.row(0, 0, 13), 14);
        Due.is("row at 14", rowed.row(13, 0, 13), 14);
        Due.is("boxes() after rows", rowed.boxes(), 14);
        Due.is("around after rows", rowed.around(0, 0, 0), 14);
    }

    private static void numberedInTheirOrder() {
        Due.about("Terms: numbered 0, 1, 2, .. in their order");
        Due.same("14 boxes", Views.boxes(Edges.FULL.make()), Views.boxesOf(Edges.numbersOf(0, 14)));
        BvhTracer t = Edges.with(9, 0);
        t.row(0, 1, 2);
        t.add(8, 0);
        t.remove(1);
        t.add(7, 0);
        Due.same("after row, remove and add", Views.boxes(t), Views.boxesOf(9, 0, 2057, 0, 8, 0, 7, 0));
    }

    private static void lowCornerParts() {
        Due.about("Terms: its low corner (x, y, z), each 0 .. 31");
        for (int axis = 0; axis < 3; axis++) {
            for (int part : new int[] {0, 1, 30, 31}) {
                int[] low = along(axis, part);
                BvhTracer t = Edges.with(WEIGHTS[axis] * part, 0);
                Due.is("around the corner", t.around(low[0], low[1], low[2]), 1);
                for (int other = 0; other < 3; other++) {
                    int[] beside = Edges.put(low, other, low[other] + 1);
                    Due.is("around beside it", t.around(beside[0], beside[1], beside[2]), 0);
                    beside = Edges.put(low, other, low[other] - 1);
                    Due.is("around beside it", t.around(beside[0], beside[1], beside[2]), 0);
                }
            }
        }
    }

    private static void extentParts() {
        Due.about("Terms: and its extents (u, v, w), each 0 .. 31");
        for (int axis = 0; axis < 3; axis++) {
            for (int part : new int[] {0, 1, 30, 31}) {
                BvhTracer t = Edges.with(32767, WEIGHTS[axis] * part);
                int[] end = Edges.put(new int[] {31, 31, 31}, axis, 31 + part);
                Due.is("around the end", t.around(end[0], end[1], end[2]), 1);
                for (int other = 0; other < 3; other++) {
                    int[] past = Edges.put(end, other, end[other] + 1);
                    Due.is("around past it", t.around(past[0], past[1], past[2]), 0);
                }
                int[] before = Edges.put(end, axis, 30);
                Due.is("around before its corner", t.around(before[0], before[1], before[2]), 0);
            }
        }
        BvhTracer widest = Edges.with(32767, 32767);
        Due.is("around(62, 62, 62)", widest.around(62, 62, 62), 1);
        Due.is("around(63, 62, 62)", widest.around(63, 62, 62), 0);
        Due.is("around(62, 63, 62)", widest.around(62, 63, 62), 0);
        Due.is("around(62, 62, 63)", widest.around(62, 62, 63), 0);
    }

    private static void writtenAsOneNumber() {
        Due.about("Terms: written as one number 1024 * x + 32 * y + z (where one part goes over into the next)");
        int[][] parts = {{31, 0, 0, 31}, {32, 0, 1, 0}, {33, 0, 1, 1}, {1023, 0, 31, 31}, {1024, 1, 0, 0},
            {1055, 1, 0, 31}, {1056, 1, 1, 0}, {31744, 31, 0, 0}, {31775, 31, 0, 31}, {32736, 31, 31, 0}};
        for (int[] p : parts) {
            BvhTracer corner = Edges.with(p[0], 0);
            Due.is("around the corner " + p[0], corner.around(p[1], p[2], p[3]), 1);
            BvhTracer extent = Edges.with(0, p[0]);
            Due.is("around the end of " + p[0], extent.around(p[1], p[2], p[3]), 1);
            Due.is("around past x of " + p[0], extent.around(p[1] + 1, p[2], p[3]), 0);
            Due.is("around past y of " + p[0], extent.around(p[1], p[2] + 1, p[3]), 0);
            Due.is("around past z of " + p[0], extent.around(p[1], p[2], p[3] + 1), 0);
            Due.is("meeting at " + p[0], corner.meeting(p[0], 0), 1);
            Due.is("move from " + p[0], corner.move(0, 0), p[0]);
        }
    }

    private static void bordersBelong() {
        Due.about("Terms: x <= X <= x + u, y <= Y <= y + v, z <= Z <= z + w (borders belong to it)");
        BvhTracer t = box();
        int[] inside = {12, 13, 14};
        for (int axis = 0; axis < 3; axis++) {
            for (int at = LOW[axis] - 1; at <= HIGH[axis] + 1; at++) {
                int[] point = Edges.put(inside, axis, at);
                boolean in = at >= LOW[axis] && at <= HIGH[axis];
                String what = Arrays.toString(point);
                Due.is("around " + what, t.around(point[0], point[1], point[2]), in ? 1 : 0);
                Due.is("nearest " + what, t.nearest(point[0], point[1], point[2]), in ? 0 : 1);
                Due.is("meeting " + what, t.meeting(Edges.at(point[0], point[1], point[2]), 0), in ? 1 : 0);
            }
        }
    }

    private static void bordersBelongToTheRaysHits() {
        Due.about("Terms: borders belong to it (a ray along a border hits, one beside it does not)");
        for (int axis = 0; axis < 3; axis++) {
            int across = (axis + 1) % 3;
            int third = (axis + 2) % 3;
            for (int at = LOW[across] - 1; at <= HIGH[across] + 1; at++) {
                for (int to : new int[] {LOW[third], HIGH[third]}) {
                    BvhTracer t = box();
                    int[] from = Edges.put(Edges.put(along(axis, 0), across, at), third, to);
                    Edges.aim(t, from, along(axis, 1));
                    if (at < LOW[across] || at > HIGH[across]) {
                        misses("along a border's outside", t);
                    } else {
                        passes("along a border", t, LOW[axis] + "/1", HIGH[axis] + "/1");
                    }
                }
            }
        }
    }

    private static void boxMayBeFlat() {
        Due.about("Terms: a box may be flat");
        for (int flat = 0; flat < 8; flat++) {
            int[] size = {(flat & 1) == 0 ? 2 : 0, (flat & 2) == 0 ? 4 : 0, (flat & 4) == 0 ? 6 : 0};
            for (int axis = 0; axis < 3; axis++) {
                BvhTracer t = Edges.with(Edges.at(10, 11, 12), Edges.at(size[0], size[1], size[2]));
                Edges.aim(t, Edges.put(LOW, axis, 0), along(axis, 1));
                passes("a ray along " + axis, t, LOW[axis] + "/1", LOW[axis] + size[axis] + "/1");
                Edges.aim(t, Edges.put(LOW, axis, 50), along(axis, -1));
                passes("a ray back along " + axis, t, 50 - LOW[axis] - size[axis] + "/1", 50 - LOW[axis] + "/1");
                int[] past = Edges.put(LOW, axis, LOW[axis] + size[axis] + 1);
                Due.is("around past it", t.around(past[0], past[1], past[2]), 0);
                Due.is("nearest past it", t.nearest(past[0], past[1], past[2]), 1);
                Due.is("around it", t.around(10, 11, 12), 1);
                Due.is("meeting it", t.meeting(Edges.at(10, 11, 12), 0), 1);
            }
            BvhTracer slanting = Edges.with(Edges.at(10, 11, 12), Edges.at(size[0], size[1], size[2]));
            Edges.aim(slanting, 8, 8, 7, 2, 3, 5);
            passes("a slanting ray", slanting, "1/1", flat == 0 ? "2/1" : "1/1");
        }
    }

    private static void originRange() {
        Due.about("Terms: with an origin (each coordinate -100 .. 100)");
        for (int axis = 0; axis < 3; axis++) {
            BvhTracer t = box();
            Edges.aim(t, Edges.put(LOW, axis, -100), along(axis, 1));
            passes("from -100", t, 100 + LOW[axis] + "/1", 100 + HIGH[axis] + "/1");
            Edges.aim(t, Edges.put(LOW, axis, 100), along(axis, -1));
            passes("from 100", t, 100 - HIGH[axis] + "/1", 100 - LOW[axis] + "/1");
            for (int wrong : new int[] {-101, 101}) {
                int[] from = Edges.put(LOW, axis, wrong);
                Due.is("origin beyond", t.origin(from[0], from[1], from[2]), -1);
                passes("still from 100", t, 100 - HIGH[axis] + "/1", 100 - LOW[axis] + "/1");
            }
        }
    }

    private static void directionRange() {
        Due.about("Terms: and a direction (each -20 .. 20, not all 0)");
        for (int axis = 0; axis < 3; axis++) {
            BvhTracer t = Edges.with(Edges.at(10, 11, 12), 0);
            Edges.aim(t, Edges.put(LOW, axis, LOW[axis] - 1), along(axis, 20));
            passes("at speed 20", t, "1/20", "1/20");
            Edges.aim(t, Edges.put(LOW, axis, LOW[axis] + 1), along(axis, -20));
            passes("at speed -20", t, "1/20", "1/20");
            for (int wrong : new int[] {-21, 21}) {
                int[] to = along(axis, wrong);
                Due.is("direction beyond", t.direction(to[0], to[1], to[2]), -1);
                passes("still at speed -20", t, "1/20", "1/20");
            }
            Due.is("direction(0, 0, 0)", t.direction(0, 0, 0), -2);
            passes("still at speed -20 after all 0", t, "1/20", "1/20");
        }
    }

    private static void rayAtFirst() {
        Due.about("Terms: at first the origin is (0, 0, 0) and the direction (1, 0, 0)");
        passes("the origin", Edges.with(0, 0), "0/1", "0/1");
        passes("a step on", Edges.with(Edges.at(1, 0, 0), 0), "1/1", "1/1");
        passes("31 steps on", Edges.with(Edges.at(31, 0, 0), Edges.at(31, 0, 0)), "31/1", "62/1");
        misses("beside in y", Edges.with(Edges.at(0, 1, 0), 32767));
        misses("beside in z", Edges.with(Edges.at(0, 0, 1), 32767));
        BvhTracer turned = Edges.with(Edges.at(0, 5, 0), 0);
        turned.direction(0, 1, 0);
        passes("the first origin, another direction", turned, "5/1", "5/1");
        BvhTracer moved = Edges.with(Edges.at(7, 5, 9), 0);
        moved.origin(0, 5, 9);
        passes("the first direction, another origin", moved, "7/1", "7/1");
    }

    private static void timeIsNotNegative() {
        Due.about("Terms: Its point at t (a fraction, t >= 0)");
        for (int axis = 0; axis < 3; axis++) {
            BvhTracer t = box();
            Edges.aim(t, Edges.put(LOW, axis, HIGH[axis]), along(axis, 1));
            passes("from the end on", t, "0/1", "0/1");
            Edges.aim(t, Edges.put(LOW, axis, HIGH[axis] + 1), along(axis, 1));
            misses("from just behind the end on", t);
            Edges.aim(t, LOW, along(axis, -1));
            passes("from the beginning back", t, "0/1", "0/1");
            Edges.aim(t, Edges.put(LOW, axis, LOW[axis] - 1), along(axis, -1));
            misses("from just before the beginning back", t);
            // At greatest speed the box was left 1 / 20 ago.
            Edges.aim(t, Edges.put(LOW, axis, HIGH[axis] + 1), along(axis, 20));
            misses("from just behind the end on, fast", t);
        }
        BvhTracer t = box();
        Edges.aim(t, 14, 16, 18, 1, 1, 1);
        misses("slanting away", t);
        t.direction(-1, -1, -1);
        passes("slanting back", t, "1/1", "4/1");
        Edges.aim(t, 13, 15, 17, 3, 2, 1);
        passes("slanting away from the last corner", t, "0/1", "0/1");
    }

    private static void hitsIfSomePointIsIn() {
        Due.about("Terms: The ray HITS a box if some of its points is in the box (all three parts at one t)");
        BvhTracer t = box();
        Edges.aim(t, 9, 11, 12, 1, 0, 0);
        passes("straight", t, "1/1", "4/1");
        // x is in the box for t from 10 to 13 and y from 14 on, or just at 13.
        Edges.aim(t, 0, -3, 12, 1, 1, 0);
        misses("y after x", t);
        Edges.aim(t, 0, -2, 12, 1, 1, 0);
        passes("y just with x", t, "13/1", "13/1");
        Edges.aim(t, 0, 11, -2, 1, 0, 1);
        misses("z after x", t);
        Edges.aim(t, 0, 11, -1, 1, 0, 1);
        passes("z just with x", t, "13/1", "13/1");
        Edges.aim(t, 10, 0, -4, 0, 1, 1);
        misses("z after y", t);
        Edges.aim(t, 10, 0, -3, 0, 1, 1);
        passes("z just with y", t, "15/1", "15/1");
        // y is in the box together with x and together with z, but never with both.
        t = Edges.with(Edges.at(10, 10, 10), Edges.at(2, 4, 2));
        Edges.aim(t, 0, -1, -3, 1, 1, 1);
        misses("by twos", t);
        // x is in the box together with y and together with z, but never with both.
        Edges.aim(t, 0, -1, 2, 1, 1, 1);
        misses("by twos, z before y", t);
    }

    private static void hitsByTheSlightestTouch() {
        Due.about("Terms: HITS a box if some of its points is in the box (by a corner, and missed by 1 / 380)");
        BvhTracer corner = Edges.with(Edges.at(20, 0, 0), Edges.at(11, 19, 31));
        Edges.aim(corner, 0, 0, 0, 20, 19, 0);
        passes("through an edge", corner, "1/1", "1/1");
        Edges.aim(corner, 0, 0, 31, 20, 19, 0);
        passes("through a corner", corner, "1/1", "1/1");
        Edges.aim(corner, 0, 0, 0, 19, 20, 0);
        misses("past an edge", corner);
        // x is reached at 19 / 20 and y is left at 18 / 19.
        BvhTracer narrow = Edges.with(Edges.at(19, 0, 0), Edges.at(11, 18, 0));
        Edges.aim(narrow, 0, 0, 0, 20, 19, 0);
        misses("past by 1 / 380", narrow);
        // x is reached at 18 / 19 and y is left at 19 / 20.
        BvhTracer wide = Edges.with(Edges.at(18, 0, 0), Edges.at(11, 19, 0));
        Edges.aim(wide, 0, 0, 0, 19, 20, 0);
        passes("through by 1 / 380", wide, "18/19", "19/20");
        BvhTracer point = Edges.with(Edges.at(20, 19, 17), 0);
        Edges.aim(point, 0, 0, 0, 20, 19, 17);
        passes("through a point", point, "1/1", "1/1");
        Edges.aim(point, 0, 0, 0, 20, 19, 18);
        misses("past a point", point);
    }

    private static void entersAtTheLeast() {
        Due.about("Terms: it ENTERS the box at the least such t");
        for (int axis = 0; axis < 3; axis++) {
            BvhTracer t = box();
            for (int at = LOW[axis] - 3; at <= HIGH[axis]; at++) {
                Edges.aim(t, Edges.put(LOW, axis, at), along(axis, 1));
                Due.is("entered, from " + at, t.firstTop(), Math.max(0, LOW[axis] - at));
            }
            for (int at = LOW[axis]; at <= HIGH[axis] + 3; at++) {
                Edges.aim(t, Edges.put(LOW, axis, at), along(axis, -1));
                Due.is("entered going down, from " + at, t.firstTop(), Math.max(0, at - HIGH[axis]));
            }
        }
        // The part that comes in last tells, whichever it is.
        BvhTracer t = Edges.with(Edges.at(6, 6, 6), Edges.at(20, 20, 20));
        Edges.aim(t, 0, 0, 0, 2, 3, 6);
        passes("x last", t, "3/1", "13/3");
        t.direction(6, 2, 3);
        passes("y last", t, "3/1", "13/3");
        t.direction(3, 6, 2);
        passes("z last", t, "3/1", "13/3");
    }

    private static void leavesAtTheGreatest() {
        Due.about("Terms: and LEAVES it at the greatest such t");
        for (int axis = 0; axis < 3; axis++) {
            BvhTracer t = box();
            for (int at = LOW[axis] - 3; at <= HIGH[axis]; at++) {
                Edges.aim(t, Edges.put(LOW, axis, at), along(axis, 1));
                Due.is("left, from " + at, t.leaveTop(0), HIGH[axis] - at);
            }
            for (int at = LOW[axis]; at <= HIGH[axis] + 3; at++) {
                Edges.aim(t, Edges.put(LOW, axis, at), along(axis, -1));
                Due.is("left going down, from " + at, t.leaveTop(0), at - LOW[axis]);
            }
        }
        // The part that goes out first tells, whichever it is.
        BvhTracer t = Edges.with(0, Edges.at(31, 31, 31));
        Edges.aim(t, 0, 0, 0, 10, 3, 2);
        passes("x first", t, "0/1", "31/10");
        t.direction(2, 10, 3);
        passes("y first", t, "0/1", "31/10");
        t.direction(3, 2, 10);
        passes("z first", t, "0/1", "31/10");
    }

    private static void lesserTimeComesFirst() {
        Due.about("Terms: the one that is entered at the lesser t comes FIRST (even by 1 / 380)");
        // The one box is entered at 19 / 20 and the other at 18 / 19.
        int[] late = {Edges.at(19, 0, 0), Edges.at(0, 31, 31)};
        int[] early = {Edges.at(0, 18, 0), Edges.at(31, 0, 31)};
        BvhTracer second = Edges.with(late[0], late[1], early[0], early[1]);
        Edges.aim(second, 0, 0, 0, 20, 19, 0);
        Due.is("first(), the greater number", second.first(), 1);
        Due.is("hit(0), the greater number", second.hit(0), 1);
        Due.is("hit(1), the lesser number", second.hit(1), 0);
        Due.is("firstTop()", second.firstTop(), 18);
        Due.is("firstBottom()", second.firstBottom(), 19);
        BvhTracer first = Edges.with(early[0], early[1], late[0], late[1]);
        Edges.aim(first, 0, 0, 0, 20, 19, 0);
        Due.is("first(), the lesser number", first.first(), 0);
        Due.is("hit(1), the greater number", first.hit(1), 1);
        Due.is("hitsBefore(18, 19)", first.hitsBefore(18, 19), 1);
        Due.is("hitsBefore(19, 20)", first.hitsBefore(19, 20), 2);
    }

    private static void sameTimeLesserNumber() {
        Due.about("Terms: and with the same t the one with the lesser number");
        // Both boxes are entered at 1 / 2, the one through x and the other through y.
        int[] one = {Edges.at(2, 0, 0), Edges.at(0, 31, 31)};
        int[] other = {Edges.at(0, 3, 0), Edges.at(31, 0, 31)};
        BvhTracer t = Edges.with(one[0], one[1], other[0], other[1]);
        Edges.aim(t, 0, 0, 0, 4, 6, 0);
        Due.is("first()", t.first(), 0);
        Due.is("hit(0)", t.hit(0), 0);
        Due.is("hit(1)", t.hit(1), 1);
        BvhTracer turned = Edges.with(other[0], other[1], one[0], one[1]);
        Edges.aim(turned, 0, 0, 0, 4, 6, 0);
        Due.is("first(), put in the other way", turned.first(), 0);
        Due.is("hit(1), put in the other way", turned.hit(1), 1);
        // Where they are left is not asked: the box that is left later has the lesser number here.
        BvhTracer inside = Edges.with(0, 32767, 0, Edges.at(3, 3, 3), 0, 0);
        for (int i = 0; i < 3; i++) {
            Due.is("hit(" + i + ") from inside all", inside.hit(i), i);
        }
        inside.remove(0);
        Due.is("first() after remove", inside.first(), 0);
        Due.is("hit(1) after remove", inside.hit(1), 1);
        // 0 is the least t, so a box that lies further back is entered no earlier.
        BvhTracer back = Edges.with(Edges.at(5, 0, 0), Edges.at(9, 0, 0), 0, Edges.at(9, 0, 0));
        Edges.aim(back, 6, 0, 0, 1, 0, 0);
        Due.is("first(), begun one after the other", back.first(), 0);
        Due.is("hit(1), begun one after the other", back.hit(1), 1);
    }

    private static void lowestTerms() {
        Due.about("Terms: by numerator and denominator in lowest terms");
        for (int speed = 1; speed <= 20; speed++) {
            for (int way = 1; way <= 31; way++) {
                BvhTracer t = Edges.with(Edges.at(way, 0, 0), Edges.at(0, 31, 31));
                t.direction(speed, speed == 20 ? 0 : 1, 0);
                int divisor = greatestDivisor(way, speed);
                String due = way / divisor + "/" + speed / divisor;
                passes(way + " at speed " + speed, t, due, due);
            }
        }
        BvhTracer t = Edges.with(Edges.at(20, 20, 20), Edges.at(10, 10, 10));
        Edges.aim(t, 0, 0, 0, 20, 20, 20);
        passes("three speeds of 20", t, "1/1", "3/2");
        t.direction(18, 20, 16);
        passes("18, 20, 16", t, "5/4", "3/2");
        t.direction(19, 17, 16);
        passes("19, 17, 16", t, "5/4", "30/19");
    }

    private static int greatestDivisor(int a, int b) {
        return b == 0 ? a : greatestDivisor(b, a % b);
    }

    private static void denominatorPositive() {
        Due.about("Terms: (denominator positive)");
        for (int axis = 0; axis < 3; axis++) {
            BvhTracer t = Edges.with(Edges.at(10, 11, 12), Edges.at(3, 3, 3));
            Edges.aim(t, Edges.put(LOW, axis, LOW[axis] + 10), along(axis, -3));
            passes("going down", t, "7/3", "10/3");
            Edges.aim(t, Edges.put(LOW, axis, LOW[axis] + 3), along(axis, -3));
            passes("going down from the border", t, "0/1", "1/1");
            Edges.aim(t, LOW, along(axis, -3));
            passes("going down out of it", t, "0/1", "0/1");
        }
        BvhTracer t = Edges.with(Edges.at(10, 10, 10), Edges.at(5, 5, 5));
        Edges.aim(t, 20, 20, 20, -4, -6, -9);
        misses("all down, too steep", t);
        Edges.aim(t, 20, 20, 20, -7, -6, -5);
        passes("all down", t, "1/1", "10/7");
        Edges.aim(t, 20, 5, 20, -4, 4, -5);
        passes("two down, one up", t, "5/4", "2/1");
    }

    private static void zeroIsZeroOverOne() {
        Due.about("Terms: 0 is 0 / 1");
        int[][] ways = {{1, 0, 0}, {0, -20, 0}, {0, 0, 13}, {20, 20, 20}, {-20, -19, -18}, {7, 0, -6}};
        for (int[] to : ways) {
            BvhTracer t = Edges.with(Edges.at(5, 5, 5), 0);
            Edges.aim(t, new int[] {5, 5, 5}, to);
            passes("from a point along " + Arrays.toString(to), t, "0/1", "0/1");
            BvhTracer inside = Edges.with(0, 32767);
            Edges.aim(inside, new int[] {15, 15, 15}, to);
            Due.is("firstTop() inside", inside.firstTop(), 0);
            Due.is("firstBottom() inside", inside.firstBottom(), 1);
        }
    }

    private static void asks(String call, ToIntFunction<BvhTracer> made) {
        for (Edges.Scene scene : Edges.ALL) {
            Edges.changesNothing(call, scene, made, made.applyAsInt(scene.make()));
        }
    }

    private static void noQuestionChangesAnything() {
        Due.about("Terms: No question changes anything");
        asks("boxes()", t -> t.boxes());
        asks("first()", t -> t.first());
        asks("firstTop()", t -> t.firstTop());
        asks("firstBottom()", t -> t.firstBottom());
        asks("hits()", t -> t.hits());
        asks("touching()", t -> t.touching());
        asks("hitsBefore(7, 2)", t -> t.hitsBefore(7, 2));
        asks("blocked(7, 2)", t -> t.blocked(7, 2));
        asks("around(8, 4, 13)", t -> t.around(8, 4, 13));
        asks("meeting(0, 32767)", t -> t.meeting(0, 32767));
        asks("nearest(3, 4, 5)", t -> t.nearest(3, 4, 5));
        for (int i = 0; i < 14; i++) {
            int box = i;
            asks("hit(" + i + ")", t -> t.hit(box));
            asks("leaveTop(" + i + ")", t -> t.leaveTop(box));
            asks("leaveBottom(" + i + ")", t -> t.leaveBottom(box));
        }
        asks("the same question again and again", t -> {
            for (int i = 0; i < 300; i++) {
                t.firstTop();
            }
            return t.firstTop();
        });
    }

    /** Every way to be refused, one after the other on one object. */
    private static int refusedInARow(BvhTracer t) {
        int last = t.boxes();
        int[] answers = {t.add(-1, 0), t.add(0, 32768), t.row(last, 1, 1), t.row(-1, 1, 1), t.row(0, 32, 1),
            t.row(0, 1, 14), t.remove(last), t.remove(-1), t.move(last, 0), t.move(0, 32768),
            t.origin(1, 1, 101), t.origin(101, 1, 1), t.direction(1, 1, 21), t.direction(21, 1, 1),
            t.direction(0, 0, 0), t.hitsBefore(-1, 1), t.hitsBefore(1, 0), t.blocked(1001, 1),
            t.blocked(1, 101), t.leaveTop(last), t.leaveBottom(last), t.meeting(-1, 0),
            t.meeting(0, 32768), t.nearest(101, 0, 0), t.hit(-1)};
        int refused = 0;
        for (int answer : answers) {
            refused += answer < 0 ? 1 : 0;
        }
        return refused;
    }

    private static void refusedCallsChangeNothing() {
        Due.about("Terms: A refused call changes nothing (nor do many)");
        Edges.changesNothing("25 refused calls", t -> refusedInARow(t), 25);
        Edges.changesNothing("26 refused calls", Edges.FULL, t -> t.add(0, 0) == -3 ? 1 + refusedInARow(t) : 0, 26);
    }

    private static void goodNumbers() {
        Due.about("Terms: a box's number is good if there is such a box");
        for (Edges.Scene scene : Edges.ALL) {
            for (int box = -2; box <= 15; box++) {
                boolean good = box >= 0 && box < scene.size();
                String what = "(" + box + ") with " + scene.name();
                Due.holds("row" + what, scene.make().row(box, 0, 1) > 0 == good);
                Due.holds("remove" + what, scene.make().remove(box) >= 0 == good);
                Due.holds("move" + what, scene.make().move(box, 0) >= 0 == good);
                Due.holds("leaveTop" + what, scene.make().leaveTop(box) != -1 == good);
                Due.holds("leaveBottom" + what, scene.make().leaveBottom(box) != -1 == good);
            }
        }
        BvhTracer t = new BvhTracer();
        Due.is("leaveTop(0) before add", t.leaveTop(0), -1);
        t.add(0, 0);
        Due.is("leaveTop(0) after add", t.leaveTop(0), 0);
        Due.is("leaveTop(1) before row", t.leaveTop(1), -1);
        t.row(0, 1, 1);
        Due.is("leaveTop(1) after row", t.leaveTop(1), 1);
        t.remove(0);
        Due.is("leaveTop(1) after remove", t.leaveTop(1), -1);
        Due.is("leaveTop(0) after remove", t.leaveTop(0), 1);
    }

    private static void fiveHundredAndTwelveCalls() {
        Due.about("What it is: An object is used for at most 512 calls");
        BvhTracer adding = new BvhTracer();
        for (int call = 1; call <= 512; call += 2) {
            Due.is("add, call " + call, adding.add(call, 0), 0);
            Due.is("remove, call " + (call + 1), adding.remove(0), 0);
        }
        BvhTracer asked = Edges.with(Edges.at(9, 0, 0), 0);
        for (int call = 2; call <= 512; call++) {
            Due.is("firstTop(), call " + call, asked.firstTop(), 9);
        }
        BvhTracer turning = Edges.with(Edges.at(9, 0, 0), 0);
        for (int call = 2; call < 512; call += 2) {
            int speed = 1 + call % 20;
            Due.is("direction, call " + call, turning.direction(speed, 0, 0), 0);
            Due.is("leaveTop(0), call " + (call + 1), turning.leaveTop(0), 9 / greatestDivisor(9, speed));
        }
        Due.is("hits(), call 512", turning.hits(), 1);
    }
}
