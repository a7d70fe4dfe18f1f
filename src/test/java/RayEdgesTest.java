import java.util.function.ToIntFunction;

/** Promises 6, 7 and 9 to 17, the ray: a test for each sentence that names an edge. */
public final class RayEdgesTest {
    /** A call of three coordinates. */
    private interface OfPoint {
        int ask(BvhTracer t, int[] point);
    }

    /** A call of a numerator and a denominator. */
    private interface OfTime {
        int ask(BvhTracer t, int top, int bottom);
    }

    private static final OfTime HITS_BEFORE = (t, top, bottom) -> t.hitsBefore(top, bottom);
    private static final OfTime BLOCKED = (t, top, bottom) -> t.blocked(top, bottom);

    public static void main(String[] args) {
        originTaken();
        originRefused();
        originSeveralWrong();
        directionTaken();
        directionRefused();
        directionAllZero();
        directionOrder();
        firstNone();
        firstOfMany();
        firstTopNone();
        firstTopEdges();
        firstBottomNone();
        firstBottomEdges();
        hitNoSuchOne();
        hitOrder();
        hitsFromNoneToAll();
        hitsBeforeAtMost();
        hitsBeforeLongestAndShortest();
        timeTop("Promise 14", "hitsBefore", HITS_BEFORE);
        timeBottom("Promise 14", "hitsBefore", HITS_BEFORE);
        timeOrder("Promise 14", "hitsBefore", HITS_BEFORE);
        blockedAtMost();
        blockedOtherwise();
        timeTop("Promise 15", "blocked", BLOCKED);
        timeBottom("Promise 15", "blocked", BLOCKED);
        timeOrder("Promise 15", "blocked", BLOCKED);
        leaveTopBox();
        leaveTopNotHit();
        leaveTopEdges();
        leaveBottomBox();
        leaveBottomNotHit();
        leaveBottomEdges();
        Due.finish();
    }

    /** Puts each number beyond the range in each place, beside zeroes and beside good numbers. */
    private static void beyondInEachPlace(String name, int size, OfPoint call) {
        int[][] besides = {{0, 0, 0}, {1, 2, 3}, {size, -size, size}};
        for (int wrong : Edges.beyond(-size, size)) {
            for (int axis = 0; axis < 3; axis++) {
                for (int[] beside : besides) {
                    int[] point = Edges.put(beside, axis, wrong);
                    String what = name + " of " + java.util.Arrays.toString(point);
                    Edges.changesNothing(what, t -> call.ask(t, point), -1);
                }
            }
        }
    }

    private static void originTaken() {
        Due.about("Promise 6: -1 if a coordinate is not in -100 .. 100 (these are); otherwise 0");
        int[] middle = {5, 6, 7};
        for (int axis = 0; axis < 3; axis++) {
            for (int edge : new int[] {-100, -99, 99, 100}) {
                BvhTracer t = Edges.with(Edges.at(5, 6, 7), 0);
                int[] from = Edges.put(middle, axis, edge);
                Due.is("origin at " + edge, t.origin(from[0], from[1], from[2]), 0);
                int[] to = Edges.put(new int[3], axis, edge < 0 ? 1 : -1);
                Due.is("direction from " + edge, t.direction(to[0], to[1], to[2]), 0);
                Due.is("way from " + edge, t.firstTop(), Math.abs(middle[axis] - edge));
            }
        }
        for (int corner = 0; corner < 8; corner++) {
            int[] from = {side(corner, 1), side(corner, 2), side(corner, 4)};
            BvhTracer t = Edges.with(Edges.at(31, 31, 31), Edges.at(31, 31, 31));
            Due.is("origin in a corner", t.origin(from[0], from[1], from[2]), 0);
            Due.is("direction from a corner", t.direction(-from[0] / 5, -from[1] / 5, -from[2] / 5), 0);
            // From -100 it takes 131 / 20 to reach 31, from 100 only 38 / 20 to 62 and 69 / 20 to 31.
            Due.is("hits from a corner", t.hits(), corner == 0 || corner == 7 ? 1 : 0);
            Due.is("way from a corner", t.firstTop(), corner == 0 ? 131 : corner == 7 ? 19 : -1);
            Due.is("part from a corner", t.firstBottom(), corner == 0 ? 20 : corner == 7 ? 10 : 0);
        }
    }

    private static int side(int corner, int bit) {
        return (corner & bit) == 0 ? -100 : 100;
    }

    private static void originRefused() {
        Due.about("Promise 6: -1 if a coordinate is not in -100 .. 100 (these are not)");
        beyondInEachPlace("origin", 100, (t, p) -> t.origin(p[0], p[1], p[2]));
    }

    private static void originSeveralWrong() {
        Due.about("Promise 6: -1 if a coordinate is not in -100 .. 100 (nor when several are not)");
        Edges.changesNothing("origin(101, -101, 0)", t -> t.origin(101, -101, 0), -1);
        Edges.changesNothing("origin(101, 0, 101)", t -> t.origin(101, 0, 101), -1);
        Edges.changesNothing("origin(0, -101, -101)", t -> t.origin(0, -101, -101), -1);
        Edges.changesNothing("origin(-101, 101, -101)", t -> t.origin(-101, 101, -101), -1);
        Edges.changesNothing("origin(MIN, MIN, MIN)", t -> t.origin(Edges.MIN, Edges.MIN, Edges.MIN), -1);
        Edges.changesNothing("origin(MAX, MAX, MAX)", t -> t.origin(Edges.MAX, Edges.MAX, Edges.MAX), -1);
    }

    private static void directionTaken() {
        Due.about("Promise 7: -1 if a coordinate is not in -20 .. 20 (these are); otherwise 0");
        for (int axis = 0; axis < 3; axis++) {
            for (int edge : new int[] {-20, -19, -1, 1, 19, 20}) {
                BvhTracer t = Edges.with(Edges.at(10, 10, 10), 0);
                int[] from = Edges.put(new int[] {10, 10, 10}, axis, edge < 0 ? 11 : 9);
                int[] to = Edges.put(new int[3], axis, edge);
                Edges.aim(t, from, to);
                Due.is("top at speed " + edge, t.firstTop(), 1);
                Due.is("bottom at speed " + edge, t.firstBottom(), Math.abs(edge));
            }
        }
        for (int corner = 0; corner < 8; corner++) {
            int[] to = {side(corner, 1) / 5, side(corner, 2) / 5, side(corner, 4) / 5};
            BvhTracer t = Edges.with(Edges.at(20, 20, 20), 0);
            Edges.aim(t, new int[] {20 - to[0], 20 - to[1], 20 - to[2]}, to);
            Due.is("top at greatest speeds", t.firstTop(), 1);
            Due.is("bottom at greatest speeds", t.firstBottom(), 1);
        }
    }

    private static void directionRefused() {
        Due.about("Promise 7: -1 if a coordinate is not in -20 .. 20 (these are not)");
        beyondInEachPlace("direction", 20, (t, p) -> t.direction(p[0], p[1], p[2]));
    }

    private static void directionAllZero() {
        Due.about("Promise 7: -2 if all are 0");
        Edges.changesNothing("direction(0, 0, 0)", t -> t.direction(0, 0, 0), -2);
        // Some that are 0, and parts that come to 0 together, are no reason to refuse.
        int[][] taken = {{1, 0, 0}, {0, 1, 0}, {0, 0, 1}, {-1, 0, 0}, {0, -1, 0}, {0, 0, -1},
            {0, 1, 1}, {1, 0, 1}, {1, 1, 0}, {1, -1, 0}, {0, 1, -1}, {-1, 0, 1}, {2, -1, -1}};
        for (int[] to : taken) {
            BvhTracer t = Edges.with(Edges.at(20, 20, 20), 0);
            Edges.aim(t, new int[] {20 - 3 * to[0], 20 - 3 * to[1], 20 - 3 * to[2]}, to);
            Due.is("way along " + java.util.Arrays.toString(to), t.firstTop(), 3);
            Due.is("part along " + java.util.Arrays.toString(to), t.firstBottom(), 1);
        }
    }

    private static void directionOrder() {
        Due.about("Promise 7: the tests are made in the order named");
        // No call breaks both tests; one that is nearly all 0 must be refused for its other part.
        Edges.changesNothing("direction(0, 0, 21)", t -> t.direction(0, 0, 21), -1);
        Edges.changesNothing("direction(0, -21, 0)", t -> t.direction(0, -21, 0), -1);
        Edges.changesNothing("direction(21, 21, 0)", t -> t.direction(21, 21, 0), -1);
        Edges.changesNothing("direction(-21, 21, -21)", t -> t.direction(-21, 21, -21), -1);
        Edges.changesNothing("direction(MIN, MIN, 0)", t -> t.direction(Edges.MIN, Edges.MIN, 0), -1);
        Edges.changesNothing("direction(MIN, 0, MIN)", t -> t.direction(Edges.MIN, 0, Edges.MIN), -1);
    }

    /** Asks with no boxes, with 14 beside the ray, with 14 behind it, and with all taken out again. */
    private static void withNothingHit(String call, ToIntFunction<BvhTracer> made, int due) {
        Due.is(call + " with no boxes", made.applyAsInt(new BvhTracer()), due);
        BvhTracer beside = Edges.fourteen(Edges.at(0, 1, 0), Edges.at(31, 31, 31));
        Due.is(call + " with 14 boxes beside", made.applyAsInt(beside), due);
        BvhTracer behind = Edges.fourteen(Edges.at(0, 0, 0), Edges.at(4, 4, 4));
        Edges.aim(behind, 5, 2, 2, 1, 0, 0);
        Due.is(call + " with 14 boxes behind", made.applyAsInt(behind), due);
        Due.is(call + " with 14 boxes taken out", made.applyAsInt(Edges.EMPTIED.make()), due);
        Edges.changesNothing(call, Edges.NONE, made, due);
    }

    private static void firstNone() {
        Due.about("Promise 9: -1 if it hits none");
        withNothingHit("first()", t -> t.first(), -1);
    }

    private static void firstOfMany() {
        Due.about("Promise 9: The first box that the ray hits (also the last of 14)");
        BvhTracer t = Edges.with(Edges.at(1, 0, 0), 0);
        t.row(0, 1, 13);
        Due.is("first(), going up", t.first(), 0);
        Edges.aim(t, 20, 0, 0, -1, 0, 0);
        Due.is("first(), going down", t.first(), 13);
        Edges.aim(t, 14, -9, 0, 0, 1, 0);
        Due.is("first(), the last alone", t.first(), 13);
        Edges.changesNothing("first()", Edges.FULL, x -> x.first(), 5);
    }

    private static void firstTopNone() {
        Due.about("Promise 10: -1 if it hits none");
        withNothingHit("firstTop()", t -> t.firstTop(), -1);
    }

    private static void firstTopEdges() {
        Due.about("Promise 10: The numerator of the t at which the ray enters the first box (0 .. 131)");
        BvhTracer t = Edges.with(Edges.at(31, 0, 0), Edges.at(0, 31, 31));
        Due.is("firstTop() from the start", t.firstTop(), 31);
        t.origin(31, 31, 31);
        Due.is("firstTop() in the box", t.firstTop(), 0);
        t.origin(-100, 31, 0);
        Due.is("firstTop() from afar", t.firstTop(), 131);
        t.direction(20, 0, 0);
        Due.is("firstTop() at speed 20", t.firstTop(), 131);
        t.origin(-99, 0, 31);
        Due.is("firstTop() at speed 20, lowest terms", t.firstTop(), 13);
        Edges.aim(t, 100, 0, 0, -1, 0, 0);
        Due.is("firstTop() going down", t.firstTop(), 69);
        t = Edges.fourteen(Edges.at(9, 0, 0), 0);
        t.direction(6, 0, 0);
        Due.is("firstTop() with 14 boxes", t.firstTop(), 3);
        Edges.changesNothing("firstTop()", Edges.FULL, x -> x.firstTop(), 7);
    }

    private static void firstBottomNone() {
        Due.about("Promise 11: 0 if the ray hits no box");
        withNothingHit("firstBottom()", t -> t.firstBottom(), 0);
    }

    private static void firstBottomEdges() {
        Due.about("Promise 11: Its denominator (1 .. 20)");
        BvhTracer t = Edges.with(Edges.at(31, 0, 0), Edges.at(0, 31, 31));
        Due.is("firstBottom() from the start", t.firstBottom(), 1);
        t.origin(31, 31, 31);
        t.direction(20, 0, 0);
        Due.is("firstBottom() in the box", t.firstBottom(), 1);
        t.origin(-100, 31, 0);
        Due.is("firstBottom() at speed 20", t.firstBottom(), 20);
        t.origin(-99, 0, 31);
        Due.is("firstBottom() at speed 20, lowest terms", t.firstBottom(), 2);
        Edges.aim(t, 100, 0, 0, -20, 0, 0);
        Due.is("firstBottom() going down", t.firstBottom(), 20);
        t.direction(-19, 0, 0);
        Due.is("firstBottom() going down slower", t.firstBottom(), 19);
        t = Edges.fourteen(Edges.at(9, 0, 0), 0);
        t.direction(6, 0, 0);
        Due.is("firstBottom() with 14 boxes", t.firstBottom(), 2);
        Edges.changesNothing("firstBottom()", Edges.FULL, x -> x.firstBottom(), 2);
    }

    private static void hitNoSuchOne() {
        Due.about("Promise 12: -1 if there is no such one");
        for (int i : new int[] {Edges.MIN, -1, 0, 1, 13, 14, Edges.MAX}) {
            withNothingHit("hit(" + i + ")", t -> t.hit(i), -1);
        }
        // Three of five boxes are hit: the fourth is no hit although there is a box 3.
        for (int i : Edges.beyond(0, 2)) {
            BvhTracer t = Edges.with(Edges.at(3, 0, 0), 0, Edges.at(0, 1, 0), 0, Edges.at(2, 0, 0), 0,
                    Edges.at(0, 2, 0), 0, Edges.at(1, 0, 0), 0);
            Due.is("hit(" + i + ") of three", t.hit(i), -1);
        }
        for (int i : Edges.beyond(0, 13)) {
            Due.is("hit(" + i + ") of 14", Edges.fourteen(0, 0).hit(i), -1);
            Edges.changesNothing("hit(" + i + ")", t -> t.hit(i), -1);
        }
    }

    private static void hitOrder() {
        Due.about("Promise 12: The i-th box that the ray hits (0 for the first one)");
        BvhTracer three = Edges.with(Edges.at(3, 0, 0), 0, Edges.at(0, 1, 0), 0, Edges.at(2, 0, 0), 0,
                Edges.at(0, 2, 0), 0, Edges.at(1, 0, 0), 0);
        Due.is("hit(0) of three", three.hit(0), 4);
        Due.is("hit(1) of three", three.hit(1), 2);
        Due.is("hit(2) of three", three.hit(2), 0);
        BvhTracer same = Edges.fourteen(Edges.at(5, 0, 0), 0);
        BvhTracer up = Edges.with(0, 0);
        up.row(0, 2, 13);
        BvhTracer down = Edges.with(0, 0);
        down.row(0, 2, 13);
        Edges.aim(down, 31, 0, 0, -3, 0, 0);
        for (int i = 0; i < 14; i++) {
            Due.is("hit(" + i + ") of 14 that are the same", same.hit(i), i);
            Due.is("hit(" + i + ") of 14 going up", up.hit(i), i);
            Due.is("hit(" + i + ") of 14 going down", down.hit(i), 13 - i);
        }
        Edges.changesNothing("hit(0)", Edges.FULL, t -> t.hit(0), 5);
    }

    private static void hitsFromNoneToAll() {
        Due.about("Promise 13: How many boxes the ray hits (from none to 14)");
        withNothingHit("hits()", t -> t.hits(), 0);
        BvhTracer t = new BvhTracer();
        for (int size = 1; size <= 14; size++) {
            t.add(Edges.at(size, 0, 0), 0);
            Due.is("hits() of " + size, t.hits(), size);
        }
        t.origin(14, 0, 0);
        Due.is("hits() of the last", t.hits(), 1);
        t.origin(15, 0, 0);
        Due.is("hits() past the last", t.hits(), 0);
        Due.is("hits() of 14 that are the same", Edges.fourteen(0, 32767).hits(), 14);
    }

    /** A box that the ray enters at 7 / 20. */
    private static BvhTracer atSevenTwentieths() {
        BvhTracer t = Edges.with(Edges.at(7, 0, 0), 0);
        t.direction(20, 0, 0);
        return t;
    }

    private static void hitsBeforeAtMost() {
        Due.about("Promise 14: at a t of at most top / bottom (the very t counts, the next less does not)");
        BvhTracer t = atSevenTwentieths();
        Due.is("hitsBefore(7, 20)", t.hitsBefore(7, 20), 1);
        Due.is("hitsBefore(35, 100)", t.hitsBefore(35, 100), 1);
        Due.is("hitsBefore(34, 100)", t.hitsBefore(34, 100), 0);
        Due.is("hitsBefore(36, 100)", t.hitsBefore(36, 100), 1);
        // 34 / 97 is more than 7 / 20 by 1 / 1940, and 29 / 83 less by 1 / 1660.
        Due.is("hitsBefore(34, 97)", t.hitsBefore(34, 97), 1);
        Due.is("hitsBefore(29, 83)", t.hitsBefore(29, 83), 0);
        BvhTracer inside = Edges.fourteen(0, 32767);
        Due.is("hitsBefore(0, 1) in 14 boxes", inside.hitsBefore(0, 1), 14);
        Due.is("hitsBefore(0, 100) in 14 boxes", inside.hitsBefore(0, 100), 14);
        BvhTracer row = Edges.with(0, 0);
        row.row(0, 1, 13);
        for (int top = 0; top <= 14; top++) {
            Due.is("hitsBefore(" + top + ", 1) in a row", row.hitsBefore(top, 1), Math.min(14, top + 1));
            Due.is("hitsBefore(" + top + " / 2) in a row", row.hitsBefore(top, 2), top / 2 + 1);
        }
    }

    private static void hitsBeforeLongestAndShortest() {
        Due.about("Promise 14: at a t of at most top / bottom (the longest and the shortest time)");
        BvhTracer t = Edges.with(Edges.at(31, 0, 0), 0, Edges.at(0, 1, 0), Edges.at(31, 31, 31));
        t.origin(-100, 0, 0);
        Due.is("hitsBefore(1000, 1)", t.hitsBefore(1000, 1), 1);
        Due.is("hitsBefore(131, 1)", t.hitsBefore(131, 1), 1);
        Due.is("hitsBefore(130, 1)", t.hitsBefore(130, 1), 0);
        Due.is("hitsBefore(262, 2)", t.hitsBefore(262, 2), 1);
        Due.is("hitsBefore(261, 2)", t.hitsBefore(261, 2), 0);
        Due.is("hitsBefore(917, 7)", t.hitsBefore(917, 7), 1);
        Due.is("hitsBefore(916, 7)", t.hitsBefore(916, 7), 0);
        // A time of at most 1000 / 1 never makes a hit of a box that is not hit.
        t.direction(20, 20, 20);
        Due.is("hitsBefore(1000, 1) at greatest speeds", t.hitsBefore(1000, 1), 0);
        BvhTracer ten = Edges.with(Edges.at(10, 0, 0), 0);
        Due.is("hitsBefore(1000, 100)", ten.hitsBefore(1000, 100), 1);
        Due.is("hitsBefore(999, 100)", ten.hitsBefore(999, 100), 0);
        BvhTracer near = Edges.with(Edges.at(1, 0, 0), 0);
        near.direction(20, 0, 0);
        Due.is("hitsBefore(5, 100)", near.hitsBefore(5, 100), 1);
        Due.is("hitsBefore(4, 100)", near.hitsBefore(4, 100), 0);
        Due.is("hitsBefore(0, 1)", near.hitsBefore(0, 1), 0);
        near.origin(1, 0, 0);
        Due.is("hitsBefore(0, 100) at the box", near.hitsBefore(0, 100), 1);
        withNothingHit("hitsBefore(1000, 1)", x -> x.hitsBefore(1000, 1), 0);
    }

    private static void timeTop(String promise, String name, OfTime call) {
        Due.about(promise + ": -1 if top is not in 0 .. 1000");
        BvhTracer t = Edges.with(0, 0);
        for (int top : new int[] {0, 1, 999, 1000}) {
            Due.is(name + "(" + top + ", 1)", call.ask(t, top, 1), 1);
            Due.is(name + "(" + top + ", 100)", call.ask(t, top, 100), 1);
        }
        for (int top : Edges.beyond(0, 1000)) {
            Edges.changesNothing(name + "(" + top + ", 1)", x -> call.ask(x, top, 1), -1);
            Edges.changesNothing(name + "(" + top + ", 100)", x -> call.ask(x, top, 100), -1);
        }
    }

    private static void timeBottom(String promise, String name, OfTime call) {
        Due.about(promise + ": -2 if bottom is not in 1 .. 100");
        BvhTracer t = Edges.with(0, 0);
        for (int bottom : new int[] {1, 2, 99, 100}) {
            Due.is(name + "(0, " + bottom + ")", call.ask(t, 0, bottom), 1);
            Due.is(name + "(1000, " + bottom + ")", call.ask(t, 1000, bottom), 1);
        }
        for (int bottom : Edges.beyond(1, 100)) {
            Edges.changesNothing(name + "(0, " + bottom + ")", x -> call.ask(x, 0, bottom), -2);
            Edges.changesNothing(name + "(1000, " + bottom + ")", x -> call.ask(x, 1000, bottom), -2);
        }
    }

    private static void timeOrder(String promise, String name, OfTime call) {
        Due.about(promise + ": the tests are made in the order named");
        Edges.changesNothing(name + "(-1, 0)", x -> call.ask(x, -1, 0), -1);
        Edges.changesNothing(name + "(1001, 101)", x -> call.ask(x, 1001, 101), -1);
        Edges.changesNothing(name + "(-1, 101)", x -> call.ask(x, -1, 101), -1);
        Edges.changesNothing(name + "(1001, 0)", x -> call.ask(x, 1001, 0), -1);
        Edges.changesNothing(name + "(MIN, MIN)", x -> call.ask(x, Edges.MIN, Edges.MIN), -1);
        Edges.changesNothing(name + "(MAX, MAX)", x -> call.ask(x, Edges.MAX, Edges.MAX), -1);
    }

    private static void blockedAtMost() {
        Due.about("Promise 15: 1 if the ray has a point in some box at a t of at most top / bottom");
        BvhTracer t = atSevenTwentieths();
        Due.is("blocked(7, 20)", t.blocked(7, 20), 1);
        Due.is("blocked(35, 100)", t.blocked(35, 100), 1);
        Due.is("blocked(34, 100)", t.blocked(34, 100), 0);
        Due.is("blocked(34, 97)", t.blocked(34, 97), 1);
        Due.is("blocked(29, 83)", t.blocked(29, 83), 0);
        Due.is("blocked long after it has been left", t.blocked(1000, 1), 1);
        Due.is("blocked(0, 1) in 14 boxes", Edges.fourteen(0, 32767).blocked(0, 1), 1);
        Due.is("blocked(0, 100) in 14 boxes", Edges.fourteen(0, 0).blocked(0, 100), 1);
        Due.is("blocked(1000, 1) by 14 boxes", Edges.fourteen(Edges.at(9, 0, 0), 0).blocked(1000, 1), 1);
        BvhTracer last = Edges.with(Edges.at(0, 1, 0), 0);
        last.row(0, 1, 12);
        last.add(Edges.at(31, 0, 0), 0);
        last.origin(-100, 0, 0);
        Due.is("blocked(131, 1) by the last of 14", last.blocked(131, 1), 1);
        Due.is("blocked(130, 1) by the last of 14", last.blocked(130, 1), 0);
    }

    private static void blockedOtherwise() {
        Due.about("Promise 15: otherwise 0");
        withNothingHit("blocked(1000, 1)", t -> t.blocked(1000, 1), 0);
        withNothingHit("blocked(0, 100)", t -> t.blocked(0, 100), 0);
        BvhTracer ten = Edges.with(Edges.at(10, 0, 0), 0);
        Due.is("blocked(1000, 100)", ten.blocked(1000, 100), 1);
        Due.is("blocked(999, 100)", ten.blocked(999, 100), 0);
        Due.is("blocked(0, 1)", ten.blocked(0, 1), 0);
        ten.direction(20, 20, 20);
        Due.is("blocked(1000, 1) beside", ten.blocked(1000, 1), 0);
    }

    private static void refusesBadBoxes(String name, java.util.function.ToIntBiFunction<BvhTracer, Integer> call) {
        for (Edges.Scene scene : Edges.ALL) {
            for (int box : Edges.notGood(scene.size())) {
                Edges.changesNothing(name + "(" + box + ")", scene, t -> call.applyAsInt(t, box), -1);
            }
        }
    }

    private static void refusesBoxesNotHit(String name, java.util.function.ToIntBiFunction<BvhTracer, Integer> call) {
        BvhTracer beside = Edges.fourteen(Edges.at(0, 1, 0), Edges.at(31, 31, 31));
        BvhTracer behind = Edges.fourteen(Edges.at(0, 0, 0), Edges.at(4, 4, 4));
        Edges.aim(behind, 5, 2, 2, 1, 0, 0);
        for (int box = 0; box < 14; box++) {
            Due.is(name + "(" + box + ") beside", call.applyAsInt(beside, box), -2);
            Due.is(name + "(" + box + ") behind", call.applyAsInt(behind, box), -2);
        }
        // Box 0 of the scenes is never met by their ray.
        for (Edges.Scene scene : Edges.ALL) {
            int due = scene.size() == 0 ? -1 : -2;
            Edges.changesNothing(name + "(0)", scene, t -> call.applyAsInt(t, 0), due);
        }
    }

    private static void leaveTopBox() {
        Due.about("Promise 16: -1 if box is not good");
        refusesBadBoxes("leaveTop", (t, box) -> t.leaveTop(box));
        BvhTracer t = Edges.fourteen(0, Edges.at(3, 0, 0));
        Due.is("leaveTop(0)", t.leaveTop(0), 3);
        Due.is("leaveTop(13)", t.leaveTop(13), 3);
    }

    private static void leaveTopNotHit() {
        Due.about("Promise 16: -2 if the ray does not hit it");
        refusesBoxesNotHit("leaveTop", (t, box) -> t.leaveTop(box));
    }

    private static void leaveTopEdges() {
        Due.about("Promise 16: The numerator of the t at which the ray leaves the box (0 .. 162)");
        BvhTracer t = Edges.with(32767, 32767, Edges.at(31, 31, 31), 0);
        Edges.aim(t, 62, 62, 62, 1, 1, 1);
        Due.is("leaveTop(0) where it ends", t.leaveTop(0), 0);
        Edges.aim(t, 31, 31, 31, -1, 0, 0);
        Due.is("leaveTop(0) where it begins", t.leaveTop(0), 0);
        Due.is("leaveTop(1) of a point", t.leaveTop(1), 0);
        Edges.aim(t, -100, 31, 31, 1, 0, 0);
        Due.is("leaveTop(0) from afar", t.leaveTop(0), 162);
        Due.is("leaveTop(1) from afar", t.leaveTop(1), 131);
        t.direction(19, 0, 0);
        Due.is("leaveTop(0) at speed 19", t.leaveTop(0), 162);
        t.direction(20, 0, 0);
        Due.is("leaveTop(0) at speed 20, lowest terms", t.leaveTop(0), 81);
        BvhTracer low = Edges.with(0, 0);
        Edges.aim(low, 0, 0, 100, 0, 0, -1);
        Due.is("leaveTop(0) going down", low.leaveTop(0), 100);
        low.direction(0, 0, -20);
        Due.is("leaveTop(0) going down at speed 20", low.leaveTop(0), 5);
    }

    private static void leaveBottomBox() {
        Due.about("Promise 17: -1 if box is not good");
        refusesBadBoxes("leaveBottom", (t, box) -> t.leaveBottom(box));
        BvhTracer t = Edges.fourteen(0, Edges.at(3, 0, 0));
        t.direction(2, 0, 0);
        Due.is("leaveBottom(0)", t.leaveBottom(0), 2);
        Due.is("leaveBottom(13)", t.leaveBottom(13), 2);
    }

    private static void leaveBottomNotHit() {
        Due.about("Promise 17: -2 if the ray does not hit it");
        refusesBoxesNotHit("leaveBottom", (t, box) -> t.leaveBottom(box));
    }

    private static void leaveBottomEdges() {
        Due.about("Promise 17: Its denominator (1 .. 20)");
        BvhTracer t = Edges.with(32767, 32767, Edges.at(31, 31, 31), 0);
        Edges.aim(t, 62, 62, 62, 20, 19, 18);
        Due.is("leaveBottom(0) where it ends", t.leaveBottom(0), 1);
        Edges.aim(t, 31, 31, 31, -20, 0, 0);
        Due.is("leaveBottom(0) where it begins", t.leaveBottom(0), 1);
        Due.is("leaveBottom(1) of a point", t.leaveBottom(1), 1);
        Edges.aim(t, -100, 31, 31, 20, 0, 0);
        Due.is("leaveBottom(0) at speed 20, lowest terms", t.leaveBottom(0), 10);
        Due.is("leaveBottom(1) at speed 20", t.leaveBottom(1), 20);
        t.direction(19, 0, 0);
        Due.is("leaveBottom(0) at speed 19", t.leaveBottom(0), 19);
        t.direction(1, 0, 0);
        Due.is("leaveBottom(0) at speed 1", t.leaveBottom(0), 1);
        BvhTracer low = Edges.with(0, 0);
        Edges.aim(low, 0, 0, 99, 0, 0, -20);
        Due.is("leaveBottom(0) going down at speed 20", low.leaveBottom(0), 20);
        low.origin(0, 0, 100);
        Due.is("leaveBottom(0) going down, whole", low.leaveBottom(0), 1);
    }
}
