/** Each promise of the document by itself: ordinary inputs, the edges it names, and wrong inputs. */
public final class PromisesTest {
    private static final int MIN = Integer.MIN_VALUE;
    private static final int MAX = Integer.MAX_VALUE;

    public static void main(String[] args) {
        promise1NewObject();
        promise2Add();
        promise2AddReadsItsNumbers();
        promise3Row();
        promise3RowStops();
        promise3RowRefuses();
        promise4Remove();
        promise5Move();
        promise6Origin();
        promise7Direction();
        promise8Boxes();
        promise9First();
        promise10And11FirstTime();
        promise12Hit();
        promise13Hits();
        promise14HitsBefore();
        promise15Blocked();
        promise16And17Leave();
        promise18Around();
        promise19Meeting();
        promise20Touching();
        promise21Nearest();
        questionsChangeNothing();
        refusedCallsChangeNothing();
        objectsAreApart();
        Due.finish();
    }

    private static int at(int x, int y, int z) {
        return 1024 * x + 32 * y + z;
    }

    /** A scene of boxes, each given by corner and extent. */
    private static BvhTracer scene(int... numbers) {
        BvhTracer t = new BvhTracer();
        for (int i = 0; i < numbers.length; i += 2) {
            Due.is("scene add", t.add(numbers[i], numbers[i + 1]), i / 2);
        }
        return t;
    }

    private static BvhTracer full() {
        BvhTracer t = scene(0, 0);
        Due.is("full row", t.row(0, 1, 13), 14);
        return t;
    }

    private static void aim(BvhTracer t, int x, int y, int z, int dx, int dy, int dz) {
        Due.is("aim origin", t.origin(x, y, z), 0);
        Due.is("aim direction", t.direction(dx, dy, dz), 0);
    }

    /** All that tells where box 0 begins and ends, seen through around. */
    private static void spans(String what, BvhTracer t, int[] low, int[] high) {
        Due.is(what + " low", t.around(low[0], low[1], low[2]), 1);
        Due.is(what + " high", t.around(high[0], high[1], high[2]), 1);
        for (int axis = 0; axis < 3; axis++) {
            int[] below = low.clone();
            int[] above = high.clone();
            below[axis]--;
            above[axis]++;
            Due.is(what + " below " + axis, t.around(below[0], below[1], below[2]), 0);
            Due.is(what + " above " + axis, t.around(above[0], above[1], above[2]), 0);
        }
    }

    private static void promise1NewObject() {
        BvhTracer t = new BvhTracer();
        Due.is("new boxes", t.boxes(), 0);
        Due.is("new first", t.first(), -1);
        Due.is("new hits", t.hits(), 0);
        Due.is("new nearest", t.nearest(0, 0, 0), -2);
        Due.is("new remove", t.remove(0), -1);
        // The ray of a new object starts at (0, 0, 0) and goes along (1, 0, 0).
        t.add(at(7, 0, 0), 0);
        t.add(at(0, 7, 0), 0);
        t.add(at(0, 0, 7), 0);
        Due.is("new ray hits", t.hits(), 1);
        Due.is("new ray firstTop", t.firstTop(), 7);
        Due.is("new ray firstBottom", t.firstBottom(), 1);
    }

    private static void promise2Add() {
        BvhTracer t = new BvhTracer();
        Due.is("add first", t.add(0, 0), 0);
        Due.is("add greatest", t.add(32767, 32767), 1);
        Due.is("add corner -1", t.add(-1, 0), -1);
        Due.is("add corner 32768", t.add(32768, 0), -1);
        Due.is("add corner MIN", t.add(MIN, 0), -1);
        Due.is("add corner MAX", t.add(MAX, 0), -1);
        Due.is("add extent -1", t.add(0, -1), -2);
        Due.is("add extent 32768", t.add(0, 32768), -2);
        Due.is("add extent MIN", t.add(0, MIN), -2);
        Due.is("add extent MAX", t.add(0, MAX), -2);
        Due.is("add both wrong", t.add(-1, -1), -1);
        Due.is("add boxes", t.boxes(), 2);
        for (int i = 2; i < 14; i++) {
            Due.is("add number " + i, t.add(i, i), i);
        }
        Due.is("add 15th", t.add(0, 0), -3);
        Due.is("add 15th, corner wrong", t.add(32768, 0), -1);
        Due.is("add 15th, extent wrong", t.add(0, 32768), -2);
        Due.is("add full boxes", t.boxes(), 14);
        Due.is("add remove", t.remove(5), 13);
        Due.is("add after remove", t.add(0, 0), 13);
    }

    private static void promise2AddReadsItsNumbers() {
        BvhTracer t = scene(at(5, 9, 13), at(2, 4, 7));
        spans("add", t, new int[] {5, 9, 13}, new int[] {7, 13, 20});
        t = scene(32767, 32767);
        spans("add far", t, new int[] {31, 31, 31}, new int[] {62, 62, 62});
        t = scene(at(31, 0, 31), at(0, 31, 0));
        spans("add flat", t, new int[] {31, 0, 31}, new int[] {31, 31, 31});
    }

    private static void promise3Row() {
        BvhTracer t = scene(at(20, 20, 20), 0, at(4, 5, 6), at(1, 2, 3));
        Due.is("row", t.row(1, 3, 2), 4);
        Due.is("row copied", t.move(2, 0), at(7, 5, 6));
        Due.is("row copied twice", t.move(3, 0), at(10, 5, 6));
        Due.is("row kept", t.move(1, at(4, 5, 6)), at(4, 5, 6));
        Due.is("row copied extents", t.around(1, 2, 3), 2);
        Due.is("row copied extents end", t.around(2, 2, 3), 0);
        Due.is("row one", t.row(0, -1, 1), 5);
        Due.is("row one moved", t.move(4, 0), at(19, 20, 20));
        t = scene(at(9, 0, 0), 0);
        Due.is("row dx 0", t.row(0, 0, 4), 5);
        Due.is("row dx 0 around", t.around(9, 0, 0), 5);
    }

    private static void promise3RowStops() {
        BvhTracer t = scene(0, 0);
        Due.is("row to 31", t.row(0, 31, 13), 2);
        Due.is("row at 31", t.move(1, at(31, 0, 0)), at(31, 0, 0));
        Due.is("row past 31", t.row(1, 1, 13), 2);
        Due.is("row past 0", t.row(0, -1, 13), 2);
        Due.is("row down to 0", t.row(1, -31, 2), 3);
        Due.is("row at 0", t.around(0, 0, 0), 2);
        t = scene(at(10, 0, 0), 0);
        Due.is("row down", t.row(0, -5, 13), 3);
        Due.is("row down last", t.move(2, 0), 0);
        t = scene(at(10, 0, 0), 0);
        Due.is("row up", t.row(0, 7, 13), 4);
        Due.is("row up last", t.move(3, 0), at(31, 0, 0));
        t = scene(0, 0, at(1, 1, 1), 0, at(2, 2, 2), 0);
        Due.is("row out of room", t.row(1, 1, 13), 14);
        Due.is("row out of room last", t.move(13, 0), at(12, 1, 1));
        Due.is("row without room", t.row(0, 1, 1), 14);
        // Only the low corner is held to 31; the far side may reach beyond.
        t = scene(0, at(31, 0, 0));
        Due.is("row wide", t.row(0, 31, 1), 2);
        Due.is("row wide far side", t.around(62, 0, 0), 1);
    }

    private static void promise3RowRefuses() {
        BvhTracer t = scene(at(3, 0, 0), 0);
        Due.is("row box -1", t.row(-1, 1, 1), -1);
        Due.is("row box 1", t.row(1, 1, 1), -1);
        Due.is("row box MIN", t.row(MIN, 1, 1), -1);
        Due.is("row box MAX", t.row(MAX, 1, 1), -1);
        Due.is("row dx -32", t.row(0, -32, 1), -2);
        Due.is("row dx 32", t.row(0, 32, 1), -2);
        Due.is("row dx MIN", t.row(0, MIN, 1), -2);
        Due.is("row dx MAX", t.row(0, MAX, 1), -2);
        Due.is("row count 0", t.row(0, 1, 0), -3);
        Due.is("row count 14", t.row(0, 1, 14), -3);
        Due.is("row count MIN", t.row(0, 1, MIN), -3);
        Due.is("row count MAX", t.row(0, 1, MAX), -3);
        Due.is("row all wrong", t.row(1, 32, 0), -1);
        Due.is("row dx and count wrong", t.row(0, 32, 0), -2);
        Due.is("row refused boxes", t.boxes(), 1);
        t = full();
        Due.is("row full, count wrong", t.row(0, 1, 14), -3);
        Due.is("row full, box wrong", t.row(14, 1, 1), -1);
    }

    private static void promise4Remove() {
        BvhTracer t = scene(1, at(1, 0, 0), 2, at(2, 0, 0), 3, at(3, 0, 0), 4, at(4, 0, 0));
        Due.is("remove -1", t.remove(-1), -1);
        Due.is("remove 4", t.remove(4), -1);
        Due.is("remove MIN", t.remove(MIN), -1);
        Due.is("remove MAX", t.remove(MAX), -1);
        Due.is("remove middle", t.remove(1), 3);
        Due.is("remove gone", t.remove(3), -1);
        Due.is("remove keeps extents", t.around(3, 0, 3), 1);
        Due.is("remove keeps extents' end", t.around(4, 0, 3), 0);
        Due.is("remove keeps 0", t.move(0, 1), 1);
        Due.is("remove shifts 2", t.move(1, 3), 3);
        Due.is("remove shifts 3", t.move(2, 4), 4);
        Due.is("remove last", t.remove(2), 2);
        Due.is("remove first", t.remove(0), 1);
        Due.is("remove left over", t.move(0, 3), 3);
        Due.is("remove only", t.remove(0), 0);
        Due.is("remove none", t.remove(0), -1);
        t = full();
        Due.is("remove from full", t.remove(0), 13);
        Due.is("remove from full shifts", t.move(12, 0), at(13, 0, 0));
    }

    private static void promise5Move() {
        BvhTracer t = scene(at(1, 2, 3), at(4, 5, 6), 0, 0);
        Due.is("move", t.move(0, at(10, 11, 12)), at(1, 2, 3));
        Due.is("move 1", t.move(1, at(10, 11, 12)), 0);
        Due.is("move 1 back", t.move(1, 0), at(10, 11, 12));
        spans("move", t, new int[] {10, 11, 12}, new int[] {14, 16, 18});
        Due.is("move greatest", t.move(0, 32767), at(10, 11, 12));
        Due.is("move least", t.move(0, 0), 32767);
        Due.is("move same", t.move(0, 0), 0);
        Due.is("move box -1", t.move(-1, 0), -1);
        Due.is("move box 2", t.move(2, 0), -1);
        Due.is("move box MIN", t.move(MIN, 0), -1);
        Due.is("move box MAX", t.move(MAX, 0), -1);
        Due.is("move corner -1", t.move(0, -1), -2);
        Due.is("move corner 32768", t.move(0, 32768), -2);
        Due.is("move corner MIN", t.move(0, MIN), -2);
        Due.is("move corner MAX", t.move(0, MAX), -2);
        Due.is("move both wrong", t.move(2, -1), -1);
        Due.is("move refused", t.move(0, 5), 0);
    }

    private static void promise6Origin() {
        BvhTracer t = scene(at(5, 6, 7), 0);
        t.direction(0, 0, 1);
        Due.is("origin", t.origin(5, 6, -3), 0);
        Due.is("origin firstTop", t.firstTop(), 10);
        int[] wrong = {-101, 101, MIN, MAX};
        for (int bad : wrong) {
            Due.is("origin x " + bad, t.origin(bad, 0, 0), -1);
            Due.is("origin y " + bad, t.origin(0, bad, 0), -1);
            Due.is("origin z " + bad, t.origin(0, 0, bad), -1);
        }
        Due.is("origin kept", t.firstTop(), 10);
        for (int edge = -100; edge <= 100; edge += 200) {
            int sign = edge < 0 ? 1 : -1;
            aim(t, edge, 6, 7, sign, 0, 0);
            Due.is("origin x edge", t.firstTop(), sign * (5 - edge));
            aim(t, 5, edge, 7, 0, sign, 0);
            Due.is("origin y edge", t.firstTop(), sign * (6 - edge));
            aim(t, 5, 6, edge, 0, 0, sign);
            Due.is("origin z edge", t.firstTop(), sign * (7 - edge));
        }
        Due.is("origin all edges", t.origin(-100, 100, -100), 0);
    }

    private static void promise7Direction() {
        BvhTracer t = scene(at(20, 20, 20), 0);
        t.origin(0, 0, 0);
        Due.is("direction", t.direction(4, 4, 4), 0);
        Due.is("direction firstTop", t.firstTop(), 5);
        int[] wrong = {-21, 21, MIN, MAX};
        for (int bad : wrong) {
            Due.is("direction x " + bad, t.direction(bad, 0, 0), -1);
            Due.is("direction y " + bad, t.direction(0, bad, 0), -1);
            Due.is("direction z " + bad, t.direction(0, 0, bad), -1);
        }
        Due.is("direction 0", t.direction(0, 0, 0), -2);
        Due.is("direction kept", t.firstTop(), 5);
        Due.is("direction edge", t.direction(20, 20, 20), 0);
        Due.is("direction edge firstTop", t.firstTop(), 1);
        t.origin(40, 40, 40);
        Due.is("direction far edge", t.direction(-20, -20, -20), 0);
        Due.is("direction far edge firstTop", t.firstTop(), 1);
        // Only where the ray goes is asked, not what lies behind it.
        Due.is("direction away", t.direction(1, 1, 1), 0);
        Due.is("direction away first", t.first(), -1);
        aim(t, 20, 20, 0, 0, 0, 3);
        Due.is("direction z alone", t.firstTop(), 20);
        Due.is("direction z alone bottom", t.firstBottom(), 3);
        aim(t, 20, 60, 20, 0, -6, 0);
        Due.is("direction -y alone", t.firstTop(), 20);
        Due.is("direction -y alone bottom", t.firstBottom(), 3);
    }

    private static void promise8Boxes() {
        BvhTracer t = new BvhTracer();
        Due.is("boxes none", t.boxes(), 0);
        for (int i = 1; i <= 14; i++) {
            t.add(0, 0);
            Due.is("boxes after add", t.boxes(), i);
        }
        t.add(0, 0);
        Due.is("boxes full", t.boxes(), 14);
        t.remove(3);
        Due.is("boxes after remove", t.boxes(), 13);
        t.move(0, 1);
        Due.is("boxes after move", t.boxes(), 13);
        t.row(0, 1, 5);
        Due.is("boxes after row", t.boxes(), 14);
    }

    private static void promise9First() {
        BvhTracer t = scene(at(20, 0, 0), at(1, 9, 9), at(10, 0, 0), at(1, 9, 9), at(10, 3, 3), at(5, 2, 2));
        aim(t, 0, 4, 4, 1, 0, 0);
        Due.is("first, lesser number of two", t.first(), 1);
        aim(t, 50, 4, 4, -1, 0, 0);
        Due.is("first from afar", t.first(), 0);
        aim(t, 10, 4, 4, -1, 0, 0);
        Due.is("first on a border", t.first(), 1);
        aim(t, 13, 4, 4, 1, 0, 0);
        Due.is("first from inside", t.first(), 2);
        aim(t, 0, 10, 4, 1, 0, 0);
        Due.is("first beside", t.first(), -1);
        aim(t, 0, 9, 9, 1, 0, 0);
        Due.is("first along an edge", t.first(), 1);
        aim(t, 30, 4, 4, 1, 0, 0);
        Due.is("first behind", t.first(), -1);
        // Times 3 / 2 and 5 / 3 differ by less than a whole number.
        t = scene(at(5, 0, 0), at(0, 31, 31), at(0, 3, 0), at(31, 0, 31));
        aim(t, 0, 0, 0, 3, 2, 0);
        Due.is("first by fractions", t.first(), 1);
        // A flat box that is only a point, met by a slanting ray.
        t = scene(at(6, 9, 15), 0);
        aim(t, 0, 0, 0, 2, 3, 5);
        Due.is("first point", t.first(), 0);
        aim(t, 0, 0, 0, 2, 3, 4);
        Due.is("first past a point", t.first(), -1);
        // Entered and left through one corner.
        t = scene(at(5, 5, 0), at(5, 5, 5));
        aim(t, 0, 15, 2, 1, -1, 0);
        Due.is("first crosses", t.first(), 0);
        aim(t, 0, 20, 2, 1, -1, 0);
        Due.is("first at a corner", t.first(), 0);
        Due.is("first at a corner time", t.firstTop(), 10);
        Due.is("first at a corner leave", t.leaveTop(0), 10);
        aim(t, 0, 21, 2, 1, -1, 0);
        Due.is("first past a corner", t.first(), -1);
    }

    private static void promise10And11FirstTime() {
        BvhTracer t = scene(at(10, 0, 0), at(4, 31, 31));
        aim(t, 0, 5, 5, 4, 0, 0);
        Due.is("firstTop lowest", t.firstTop(), 5);
        Due.is("firstBottom lowest", t.firstBottom(), 2);
        aim(t, 0, 5, 5, 5, 0, 0);
        Due.is("firstTop whole", t.firstTop(), 2);
        Due.is("firstBottom whole", t.firstBottom(), 1);
        aim(t, 12, 5, 5, -7, 3, 2);
        Due.is("firstTop inside", t.firstTop(), 0);
        Due.is("firstBottom inside", t.firstBottom(), 1);
        aim(t, 10, 5, 5, -7, 0, 0);
        Due.is("firstTop border", t.firstTop(), 0);
        Due.is("firstBottom border", t.firstBottom(), 1);
        aim(t, 20, 5, 5, -4, 0, 0);
        Due.is("firstTop backwards", t.firstTop(), 3);
        Due.is("firstBottom backwards", t.firstBottom(), 2);
        aim(t, 20, 5, 5, 4, 0, 0);
        Due.is("firstTop none", t.firstTop(), -1);
        Due.is("firstBottom none", t.firstBottom(), 0);
        aim(t, -100, -100, -100, 17, 18, 19);
        Due.is("firstTop late", t.firstTop(), 110);
        Due.is("firstBottom late", t.firstBottom(), 17);
        t = scene(at(31, 31, 31), at(31, 31, 31));
        aim(t, -100, -100, -100, 20, 19, 17);
        Due.is("firstTop greatest speeds", t.firstTop(), 131);
        Due.is("firstBottom greatest speeds", t.firstBottom(), 17);
        t = scene(at(31, 0, 0), at(0, 31, 31));
        aim(t, -100, 0, 0, 1, 0, 0);
        Due.is("firstTop slow", t.firstTop(), 131);
        Due.is("firstBottom slow", t.firstBottom(), 1);
    }

    private static void promise12Hit() {
        BvhTracer t = scene(at(20, 0, 0), at(0, 9, 9), at(5, 20, 0), at(0, 9, 9), at(10, 0, 0), at(0, 9, 9),
                at(5, 0, 0), at(20, 9, 9), at(10, 0, 0), at(9, 9, 9));
        aim(t, 0, 4, 4, 3, 0, 0);
        int[] due = {3, 2, 4, 0};
        for (int i = 0; i < due.length; i++) {
            Due.is("hit " + i, t.hit(i), due[i]);
        }
        Due.is("hit 4", t.hit(4), -1);
        Due.is("hit -1", t.hit(-1), -1);
        Due.is("hit MIN", t.hit(MIN), -1);
        Due.is("hit MAX", t.hit(MAX), -1);
        // Boxes that hold the origin are all entered at 0, so their numbers tell.
        aim(t, 10, 4, 4, -1, 0, 0);
        Due.is("hit inside 0", t.hit(0), 2);
        Due.is("hit inside 1", t.hit(1), 3);
        Due.is("hit inside 2", t.hit(2), 4);
        Due.is("hit inside 3", t.hit(3), -1);
        t = full();
        aim(t, 31, 0, 0, -1, 0, 0);
        for (int i = 0; i < 14; i++) {
            Due.is("hit full " + i, t.hit(i), 13 - i);
        }
        Due.is("hit full 14", t.hit(14), -1);
        aim(t, -1, 0, 0, 2, 0, 0);
        for (int i = 0; i < 14; i++) {
            Due.is("hit full forwards " + i, t.hit(i), i);
        }
    }

    private static void promise13Hits() {
        BvhTracer t = full();
        aim(t, -1, 0, 0, 1, 0, 0);
        Due.is("hits all", t.hits(), 14);
        t.origin(5, 0, 0);
        Due.is("hits from the middle", t.hits(), 9);
        t.direction(-1, 0, 0);
        Due.is("hits back from the middle", t.hits(), 6);
        t.direction(0, 1, 0);
        Due.is("hits across", t.hits(), 1);
        t.origin(5, -3, 0);
        Due.is("hits across from below", t.hits(), 1);
        t.origin(5, 1, 0);
        Due.is("hits none", t.hits(), 0);
        t = scene(at(1, 1, 1), at(2, 2, 2), at(1, 1, 1), at(2, 2, 2));
        aim(t, 0, 0, 0, 1, 1, 1);
        Due.is("hits same boxes", t.hits(), 2);
        aim(t, 0, 0, 0, 1, 3, 1);
        Due.is("hits an edge", t.hits(), 2);
        aim(t, 0, 0, 0, 1, 4, 1);
        Due.is("hits past an edge", t.hits(), 0);
    }

    private static void limits(String name, java.util.function.IntBinaryOperator ask) {
        int[] tops = {-1, 1001, MIN, MAX};
        int[] bottoms = {0, -1, 101, MIN, MAX};
        for (int top : tops) {
            Due.is(name + " top " + top, ask.applyAsInt(top, 1), -1);
            Due.is(name + " both wrong", ask.applyAsInt(top, 0), -1);
        }
        for (int bottom : bottoms) {
            Due.is(name + " bottom " + bottom, ask.applyAsInt(0, bottom), -2);
        }
    }

    private static void promise14HitsBefore() {
        BvhTracer t = scene(at(5, 0, 0), at(9, 9, 9), at(10, 0, 0), 0, at(10, 0, 0), at(0, 4, 4), at(31, 0, 0), 0);
        t.direction(3, 0, 0);
        limits("hitsBefore", t::hitsBefore);
        Due.is("hitsBefore 0", t.hitsBefore(0, 1), 0);
        Due.is("hitsBefore just", t.hitsBefore(5, 3), 1);
        Due.is("hitsBefore just, not lowest", t.hitsBefore(100, 60), 1);
        Due.is("hitsBefore nearly", t.hitsBefore(166, 100), 0);
        Due.is("hitsBefore a little more", t.hitsBefore(167, 100), 1);
        Due.is("hitsBefore 10 / 3", t.hitsBefore(10, 3), 3);
        Due.is("hitsBefore nearly 10 / 3", t.hitsBefore(333, 100), 1);
        Due.is("hitsBefore 31 / 3", t.hitsBefore(31, 3), 4);
        Due.is("hitsBefore all", t.hitsBefore(1000, 1), 4);
        Due.is("hitsBefore 1000 / 100", t.hitsBefore(1000, 100), 3);
        t.origin(6, 0, 0);
        Due.is("hitsBefore inside", t.hitsBefore(0, 100), 1);
        t.direction(20, 19, 17);
        Due.is("hitsBefore, others never", t.hitsBefore(1000, 1), 2);
        t.direction(20, 20, 20);
        Due.is("hitsBefore, greatest speeds", t.hitsBefore(1000, 1), 2);
    }

    private static void promise15Blocked() {
        BvhTracer t = scene(at(5, 0, 0), at(9, 9, 9), at(10, 0, 0), 0);
        t.direction(3, 0, 0);
        limits("blocked", t::blocked);
        Due.is("blocked 0", t.blocked(0, 1), 0);
        Due.is("blocked just", t.blocked(5, 3), 1);
        Due.is("blocked nearly", t.blocked(166, 100), 0);
        Due.is("blocked twice", t.blocked(1000, 1), 1);
        t.origin(6, 0, 0);
        Due.is("blocked inside", t.blocked(0, 1), 1);
        t.origin(14, 0, 0);
        Due.is("blocked on the border", t.blocked(0, 1), 1);
        t.origin(15, 0, 0);
        Due.is("blocked behind", t.blocked(1000, 1), 0);
        t = new BvhTracer();
        Due.is("blocked without boxes", t.blocked(1000, 1), 0);
        limits("blocked without boxes", t::blocked);
    }

    private static void leaves(String what, BvhTracer t, int box, int top, int bottom) {
        Due.is(what + " leaveTop", t.leaveTop(box), top);
        Due.is(what + " leaveBottom", t.leaveBottom(box), bottom);
    }

    private static void promise16And17Leave() {
        BvhTracer t = scene(at(10, 0, 0), at(4, 9, 9), at(0, 20, 0), at(9, 0, 9));
        aim(t, 0, 4, 4, 4, 0, 0);
        leaves("lowest", t, 0, 7, 2);
        leaves("not hit", t, 1, -2, -2);
        leaves("box 2", t, 2, -1, -1);
        leaves("box -1", t, -1, -1, -1);
        leaves("box MIN", t, MIN, -1, -1);
        leaves("box MAX", t, MAX, -1, -1);
        aim(t, 14, 4, 4, 4, 0, 0);
        leaves("at the end", t, 0, 0, 1);
        aim(t, 15, 4, 4, 4, 0, 0);
        leaves("behind", t, 0, -2, -2);
        aim(t, 15, 4, 4, -2, 0, 0);
        leaves("backwards", t, 0, 5, 2);
        aim(t, 12, 4, 4, 1, 3, 2);
        leaves("by the nearest side", t, 0, 5, 3);
        aim(t, 12, 4, 4, 0, 0, -3);
        leaves("downwards", t, 0, 4, 3);
        aim(t, 0, 0, 4, 1, 10, 0);
        leaves("flat", t, 1, 2, 1);
        aim(t, 0, 20, 4, 2, 0, 0);
        leaves("along a flat box", t, 1, 9, 2);
        t = scene(32767, 32767);
        aim(t, -100, 31, 31, 1, 0, 0);
        leaves("latest", t, 0, 162, 1);
    }

    private static void promise18Around() {
        BvhTracer t = scene(at(5, 6, 7), at(1, 2, 3), at(6, 8, 10), at(1, 1, 1), at(6, 8, 10), 0);
        Due.is("around shared", t.around(6, 8, 10), 3);
        Due.is("around low corner", t.around(5, 6, 7), 1);
        Due.is("around far corner", t.around(7, 9, 11), 1);
        Due.is("around outside", t.around(7, 8, 9), 0);
        Due.is("around MIN", t.around(MIN, MIN, MIN), 0);
        Due.is("around MAX", t.around(MAX, MAX, MAX), 0);
        Due.is("around x MIN", t.around(MIN, 8, 10), 0);
        Due.is("around y MAX", t.around(6, MAX, 10), 0);
        Due.is("around z MIN", t.around(6, 8, MIN), 0);
        Due.is("around -1", t.around(-1, -1, -1), 0);
        Due.is("around 1000", t.around(1000, 1000, 1000), 0);
        Due.is("around 2^32 wraps not", t.around(6 + (1 << 31), 8, 10), 0);
        Due.is("around none", new BvhTracer().around(0, 0, 0), 0);
    }

    private static void promise19Meeting() {
        BvhTracer t = scene(at(10, 10, 10), at(5, 5, 5), at(12, 12, 12), 0, at(31, 31, 31), at(31, 31, 31));
        Due.is("meeting all", t.meeting(at(0, 0, 0), 32767), 3);
        Due.is("meeting inside", t.meeting(at(12, 12, 12), 0), 2);
        Due.is("meeting inside, beside the point", t.meeting(at(12, 12, 13), at(1, 1, 1)), 1);
        Due.is("meeting corner to corner", t.meeting(at(8, 8, 8), at(2, 2, 2)), 1);
        Due.is("meeting far corner", t.meeting(at(15, 15, 15), 0), 1);
        Due.is("meeting x short", t.meeting(at(8, 8, 8), at(1, 9, 9)), 0);
        Due.is("meeting y short", t.meeting(at(8, 8, 8), at(9, 1, 9)), 0);
        Due.is("meeting z short", t.meeting(at(8, 8, 8), at(9, 9, 1)), 0);
        Due.is("meeting x past", t.meeting(at(16, 10, 10), at(1, 9, 9)), 0);
        Due.is("meeting y past", t.meeting(at(10, 16, 10), at(9, 1, 9)), 0);
        Due.is("meeting z past", t.meeting(at(10, 10, 16), at(9, 9, 1)), 0);
        Due.is("meeting through", t.meeting(at(0, 12, 12), at(31, 1, 1)), 2);
        Due.is("meeting far off", t.meeting(32767, 32767), 1);
        Due.is("meeting none", new BvhTracer().meeting(0, 32767), 0);
        int[] wrong = {-1, 32768, MIN, MAX};
        for (int bad : wrong) {
            Due.is("meeting corner " + bad, t.meeting(bad, 0), -1);
            Due.is("meeting extent " + bad, t.meeting(0, bad), -2);
            Due.is("meeting both " + bad, t.meeting(bad, bad), -1);
        }
    }

    private static void promise20Touching() {
        BvhTracer t = new BvhTracer();
        Due.is("touching none", t.touching(), 0);
        t.add(at(5, 5, 5), at(2, 2, 2));
        Due.is("touching one", t.touching(), 0);
        t.add(at(7, 7, 7), at(2, 2, 2));
        Due.is("touching corners", t.touching(), 1);
        t.add(at(10, 7, 7), at(2, 2, 2));
        Due.is("touching not", t.touching(), 1);
        t.add(at(0, 0, 0), 32767);
        Due.is("touching a great one", t.touching(), 4);
        t.remove(3);
        t.move(2, at(9, 9, 9));
        Due.is("touching moved", t.touching(), 2);
        t = scene(0, 0);
        t.row(0, 0, 13);
        Due.is("touching all", t.touching(), 91);
        Due.is("touching row apart", full().touching(), 0);
        t = scene(0, at(1, 0, 0));
        t.row(0, 1, 13);
        Due.is("touching row of neighbours", t.touching(), 13);
    }

    private static void promise21Nearest() {
        BvhTracer t = scene(at(10, 10, 10), at(5, 5, 5), at(30, 30, 30), 0);
        Due.is("nearest corner", t.nearest(8, 7, 6), 4 + 9 + 16);
        Due.is("nearest side", t.nearest(12, 12, 20), 25);
        Due.is("nearest edge", t.nearest(18, 19, 12), 9 + 16);
        Due.is("nearest inside", t.nearest(12, 12, 12), 0);
        Due.is("nearest border", t.nearest(15, 15, 15), 0);
        Due.is("nearest second", t.nearest(29, 31, 32), 1 + 1 + 4);
        Due.is("nearest least edge", t.nearest(-100, -100, -100), 3 * 110 * 110);
        Due.is("nearest greatest edge", t.nearest(100, 100, 100), 3 * 70 * 70);
        int[] wrong = {-101, 101, MIN, MAX};
        for (int bad : wrong) {
            Due.is("nearest x " + bad, t.nearest(bad, 0, 0), -1);
            Due.is("nearest y " + bad, t.nearest(0, bad, 0), -1);
            Due.is("nearest z " + bad, t.nearest(0, 0, bad), -1);
            Due.is("nearest, no boxes, " + bad, new BvhTracer().nearest(0, 0, bad), -1);
        }
        Due.is("nearest, no boxes", new BvhTracer().nearest(-100, 0, 100), -2);
        t = scene(32767, 32767);
        Due.is("nearest farthest", t.nearest(-100, -100, -100), 3 * 131 * 131);
    }

    /** The answers to a set of questions that between them show the boxes and the ray. */
    private static String view(BvhTracer t) {
        StringBuilder seen = new StringBuilder();
        seen.append(t.boxes()).append(' ').append(t.first()).append(' ').append(t.firstTop()).append(' ');
        seen.append(t.firstBottom()).append(' ').append(t.hits()).append(' ').append(t.touching());
        for (int i = -1; i < 4; i++) {
            seen.append(' ').append(t.hit(i)).append(' ').append(t.leaveTop(i)).append(' ').append(t.leaveBottom(i));
        }
        seen.append(' ').append(t.hitsBefore(7, 2)).append(' ').append(t.blocked(1, 3));
        seen.append(' ').append(t.around(6, 5, 5)).append(' ').append(t.meeting(at(6, 5, 5), at(9, 9, 9)));
        seen.append(' ').append(t.nearest(-3, 40, 8)).append(' ').append(t.nearest(60, 3, -8));
        return seen.toString();
    }

    private static BvhTracer viewed() {
        BvhTracer t = scene(at(5, 0, 0), at(2, 10, 10), at(10, 3, 3), at(4, 4, 4), at(6, 4, 4), at(8, 8, 8));
        aim(t, -7, 3, 2, 9, 1, 2);
        return t;
    }

    private static void questionsChangeNothing() {
        BvhTracer t = viewed();
        String before = view(t);
        Due.holds("questions change nothing", before.equals(view(t)));
        Due.holds("questions change nothing later", before.equals(view(t)));
    }

    private static void refusedCallsChangeNothing() {
        BvhTracer t = viewed();
        String before = view(t);
        Due.is("refused add", t.add(-1, 5), -1);
        Due.is("refused add", t.add(5, 32768), -2);
        Due.is("refused row", t.row(3, 1, 2), -1);
        Due.is("refused row", t.row(0, 32, 2), -2);
        Due.is("refused row", t.row(0, 1, 14), -3);
        Due.is("refused remove", t.remove(3), -1);
        Due.is("refused move", t.move(3, 0), -1);
        Due.is("refused move", t.move(0, 32768), -2);
        Due.is("refused origin", t.origin(1, 2, 101), -1);
        Due.is("refused direction", t.direction(1, 2, 21), -1);
        Due.is("refused direction", t.direction(0, 0, 0), -2);
        Due.holds("refused calls change nothing", before.equals(view(t)));
    }

    private static void objectsAreApart() {
        BvhTracer one = scene(at(5, 0, 0), 0);
        BvhTracer other = scene(at(9, 0, 0), 0);
        one.direction(0, 1, 0);
        other.origin(1, 0, 0);
        Due.is("one object's ray", one.first(), -1);
        Due.is("another object's ray", other.firstTop(), 8);
    }
}
