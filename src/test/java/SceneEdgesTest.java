/** Promises 1 to 5 and 8, the boxes: a test for each sentence that names an edge. */
public final class SceneEdgesTest {
    private static final int CORNER = Edges.at(1, 2, 3);
    private static final int EXTENT = Edges.at(4, 5, 6);

    public static void main(String[] args) {
        newObjectHasNoBoxes();
        newObjectAnswersWithoutBoxes();
        newObjectsAreApart();
        addCorner();
        addExtent();
        addFull();
        addAnswersNumber();
        addOrder();
        rowCopies();
        rowRoom();
        rowUpTo31();
        rowDownTo0();
        rowWrapsNot();
        rowBox();
        rowDx();
        rowCount();
        rowAnswersHowMany();
        rowOrder();
        removeNumbers();
        removeBox();
        removeAnswersHowMany();
        moveGivesCorner();
        moveBox();
        moveCorner();
        moveAnswersOneBefore();
        moveOrder();
        boxesHowMany();
        Due.finish();
    }

    private static void scene(String what, BvhTracer t, int... numbers) {
        Due.same(what, Views.boxes(t), Views.boxesOf(numbers));
    }

    private static void newObjectHasNoBoxes() {
        Due.about("Promise 1: No boxes at first");
        Due.is("boxes()", new BvhTracer().boxes(), 0);
        scene("a new object", new BvhTracer());
        Due.is("first add", new BvhTracer().add(0, 0), 0);
    }

    private static void newObjectAnswersWithoutBoxes() {
        Due.about("Promise 1: No boxes at first (what each method answers then)");
        BvhTracer t = new BvhTracer();
        Due.is("row(0, 0, 1)", t.row(0, 0, 1), -1);
        Due.is("remove(0)", t.remove(0), -1);
        Due.is("move(0, 0)", t.move(0, 0), -1);
        Due.is("first()", t.first(), -1);
        Due.is("firstTop()", t.firstTop(), -1);
        Due.is("firstBottom()", t.firstBottom(), 0);
        Due.is("hit(0)", t.hit(0), -1);
        Due.is("hits()", t.hits(), 0);
        Due.is("hitsBefore(1000, 1)", t.hitsBefore(1000, 1), 0);
        Due.is("blocked(1000, 1)", t.blocked(1000, 1), 0);
        Due.is("leaveTop(0)", t.leaveTop(0), -1);
        Due.is("leaveBottom(0)", t.leaveBottom(0), -1);
        Due.is("around(0, 0, 0)", t.around(0, 0, 0), 0);
        Due.is("meeting(0, 32767)", t.meeting(0, 32767), 0);
        Due.is("touching()", t.touching(), 0);
        Due.is("nearest(0, 0, 0)", t.nearest(0, 0, 0), -2);
        Due.is("boxes()", t.boxes(), 0);
    }

    private static void newObjectsAreApart() {
        Due.about("Promise 1: No boxes at first (whatever other objects hold)");
        BvhTracer full = Edges.FULL.make();
        scene("a new object beside a full one", new BvhTracer());
        scene("a full one beside a new object", full, Edges.numbersOf(0, 14));
    }

    private static void addCorner() {
        Due.about("Promise 2: -1 if corner is not in 0 .. 32767");
        for (int corner : new int[] {0, 1, 32766, 32767}) {
            BvhTracer t = new BvhTracer();
            Due.is("add(" + corner + ", ..)", t.add(corner, EXTENT), 0);
            scene("the box at " + corner, t, corner, EXTENT);
        }
        for (int corner : Edges.beyond(0, 32767)) {
            Edges.changesNothing("add(" + corner + ", ..)", t -> t.add(corner, EXTENT), -1);
        }
    }

    private static void addExtent() {
        Due.about("Promise 2: -2 if extent is not in 0 .. 32767");
        for (int extent : new int[] {0, 1, 32766, 32767}) {
            BvhTracer t = new BvhTracer();
            Due.is("add(.., " + extent + ")", t.add(CORNER, extent), 0);
            scene("the box of " + extent, t, CORNER, extent);
        }
        for (int extent : Edges.beyond(0, 32767)) {
            Edges.changesNothing("add(.., " + extent + ")", t -> t.add(CORNER, extent), -2);
        }
    }

    private static void addFull() {
        Due.about("Promise 2: -3 if there are 14 boxes");
        BvhTracer t = Edges.ALMOST.make();
        Due.is("14th add", t.add(cornerOf13(), extentOf13()), 13);
        scene("14 boxes", t, Edges.numbersOf(0, 14));
        Edges.changesNothing("15th add", Edges.FULL, x -> x.add(CORNER, EXTENT), -3);
        Edges.changesNothing("15th add of the least", Edges.FULL, x -> x.add(0, 0), -3);
        Edges.changesNothing("15th add of the greatest", Edges.FULL, x -> x.add(32767, 32767), -3);
        BvhTracer again = Edges.FULL.make();
        Due.is("remove(13)", again.remove(13), 13);
        Due.is("add after remove", again.add(cornerOf13(), extentOf13()), 13);
        Due.is("add when full again", again.add(CORNER, EXTENT), -3);
        scene("14 boxes again", again, Edges.numbersOf(0, 14));
        Due.is("14 boxes by row", Edges.fourteen(0, 0).add(0, 0), -3);
    }

    private static int cornerOf13() {
        return Edges.cornerOf(13);
    }

    private static int extentOf13() {
        return Edges.extentOf(13);
    }

    private static void addAnswersNumber() {
        Due.about("Promise 2: otherwise answers its number");
        BvhTracer t = new BvhTracer();
        for (int box = 0; box < 14; box++) {
            Due.is("add", t.add(CORNER, EXTENT), box);
        }
        BvhTracer emptied = Edges.EMPTIED.make();
        Due.is("add to an emptied scene", emptied.add(CORNER, EXTENT), 0);
        scene("an emptied scene and one box", emptied, CORNER, EXTENT);
        BvhTracer thinned = Edges.SOME.make();
        Due.is("remove(0)", thinned.remove(0), 4);
        Due.is("add after remove(0)", thinned.add(CORNER, EXTENT), 4);
        Due.is("the new box's corner", thinned.move(4, 0), CORNER);
    }

    private static void addOrder() {
        Due.about("Promise 2: the tests are made in the order named");
        Edges.changesNothing("add(-1, -1)", t -> t.add(-1, -1), -1);
        Edges.changesNothing("add(32768, 32768)", t -> t.add(32768, 32768), -1);
        Edges.changesNothing("add(MIN, MAX)", t -> t.add(Edges.MIN, Edges.MAX), -1);
        Edges.changesNothing("full add(32768, 0)", Edges.FULL, t -> t.add(32768, 0), -1);
        Edges.changesNothing("full add(0, 32768)", Edges.FULL, t -> t.add(0, 32768), -2);
        Edges.changesNothing("full add(-1, -1)", Edges.FULL, t -> t.add(-1, -1), -1);
    }

    private static void rowCopies() {
        Due.about("Promise 3: moved by (k * dx, 0, 0) for k = 1 .. count");
        BvhTracer t = Edges.with(0, 0, Edges.at(4, 31, 30), EXTENT);
        Due.is("row(1, 3, 2)", t.row(1, 3, 2), 4);
        scene("row(1, 3, 2)", t, 0, 0, Edges.at(4, 31, 30), EXTENT,
                Edges.at(7, 31, 30), EXTENT, Edges.at(10, 31, 30), EXTENT);
        t = Edges.with(Edges.at(9, 0, 1), 32767, 0, 0);
        Due.is("row(0, -4, 2)", t.row(0, -4, 2), 4);
        scene("row(0, -4, 2)", t, Edges.at(9, 0, 1), 32767, 0, 0,
                Edges.at(5, 0, 1), 32767, Edges.at(1, 0, 1), 32767);
        t = Edges.with(CORNER, EXTENT);
        Due.is("row(0, 0, 2)", t.row(0, 0, 2), 3);
        scene("row(0, 0, 2)", t, CORNER, EXTENT, CORNER, EXTENT, CORNER, EXTENT);
    }

    private static void rowRoom() {
        Due.about("Promise 3: as long as there is room for boxes");
        BvhTracer t = Edges.with(CORNER, EXTENT);
        Due.is("13 copies of one box", t.row(0, 1, 13), 14);
        Due.is("the last copy", t.move(13, 0), Edges.at(14, 2, 3));
        t = Edges.with(CORNER, EXTENT, 0, 0);
        Due.is("13 copies with room for 12", t.row(0, 1, 13), 14);
        Due.is("the last copy with room", t.move(13, 0), Edges.at(13, 2, 3));
        t = Edges.ALMOST.make();
        Due.is("two copies with room for one", t.row(12, 1, 2), 14);
        Due.is("the only copy", t.move(13, 0), Edges.at(25, 12, 1));
        Due.is("the copied box", t.move(12, 0), Edges.cornerOf(12));
        for (int count : new int[] {1, 13}) {
            Edges.changesNothing("row without room", Edges.FULL, x -> x.row(0, 1, count), 14);
            Edges.changesNothing("row without room", Edges.FULL, x -> x.row(13, 0, count), 14);
        }
    }

    private static void rowUpTo31() {
        Due.about("Promise 3: as long as x + k * dx is in 0 .. 31 (31 is, 32 is not)");
        BvhTracer t = Edges.with(Edges.at(29, 0, 0), 0);
        Due.is("row from 29 by 1", t.row(0, 1, 13), 3);
        scene("row from 29 by 1", t, Edges.at(29, 0, 0), 0, Edges.at(30, 0, 0), 0, Edges.at(31, 0, 0), 0);
        t = Edges.with(0, 0);
        Due.is("row from 0 by 31", t.row(0, 31, 13), 2);
        scene("row from 0 by 31", t, 0, 0, Edges.at(31, 0, 0), 0);
        t = Edges.with(Edges.at(1, 31, 31), EXTENT);
        Due.is("row from 1 by 31", t.row(0, 31, 13), 1);
        scene("row from 1 by 31", t, Edges.at(1, 31, 31), EXTENT);
        t = Edges.with(Edges.at(31, 0, 0), 0);
        Due.is("row from 31 by 1", t.row(0, 1, 1), 1);
        scene("row from 31 by 1", t, Edges.at(31, 0, 0), 0);
        // The far side is not spoken of: it may be anywhere that extents take it.
        t = Edges.with(0, 32767);
        Due.is("row of a wide box", t.row(0, 31, 1), 2);
        scene("row of a wide box", t, 0, 32767, Edges.at(31, 0, 0), 32767);
    }

    private static void rowDownTo0() {
        Due.about("Promise 3: as long as x + k * dx is in 0 .. 31 (0 is, -1 is not)");
        BvhTracer t = Edges.with(Edges.at(2, 0, 0), 0);
        Due.is("row from 2 by -1", t.row(0, -1, 13), 3);
        scene("row from 2 by -1", t, Edges.at(2, 0, 0), 0, Edges.at(1, 0, 0), 0, 0, 0);
        t = Edges.with(Edges.at(31, 0, 0), 0);
        Due.is("row from 31 by -31", t.row(0, -31, 13), 2);
        scene("row from 31 by -31", t, Edges.at(31, 0, 0), 0, 0, 0);
        t = Edges.with(Edges.at(30, 0, 0), EXTENT);
        Due.is("row from 30 by -31", t.row(0, -31, 13), 1);
        scene("row from 30 by -31", t, Edges.at(30, 0, 0), EXTENT);
        t = Edges.with(Edges.at(0, 31, 31), 0);
        Due.is("row from 0 by -1", t.row(0, -1, 1), 1);
        scene("row from 0 by -1", t, Edges.at(0, 31, 31), 0);
    }

    private static void rowWrapsNot() {
        Due.about("Promise 3: as long as x + k * dx is in 0 .. 31 (it does not come round again)");
        BvhTracer t = Edges.with(Edges.at(8, 0, 0), 0);
        Due.is("row from 8 by 16", t.row(0, 16, 13), 2);
        scene("row from 8 by 16", t, Edges.at(8, 0, 0), 0, Edges.at(24, 0, 0), 0);
        t = Edges.with(Edges.at(24, 0, 0), 0);
        Due.is("row from 24 by -16", t.row(0, -16, 13), 2);
        scene("row from 24 by -16", t, Edges.at(24, 0, 0), 0, Edges.at(8, 0, 0), 0);
        for (int dx = 1; dx <= 31; dx++) {
            int[] ends = {0, 31};
            for (int x : ends) {
                t = Edges.with(Edges.at(x, 31, 31), 0);
                int step = x == 0 ? dx : -dx;
                Due.is("row from " + x + " by " + step, t.row(0, step, 13), 1 + Math.min(13, 31 / dx));
            }
        }
    }

    private static void rowBox() {
        Due.about("Promise 3: -1 if box is not good");
        for (Edges.Scene scene : Edges.ALL) {
            for (int box : Edges.notGood(scene.size())) {
                Edges.changesNothing("row(" + box + ", 0, 1)", scene, t -> t.row(box, 0, 1), -1);
            }
        }
        BvhTracer t = Edges.SOME.make();
        Due.is("row(4, 0, 1)", t.row(4, 0, 1), 6);
        Due.is("row(0, 0, 1)", t.row(0, 0, 1), 7);
        Due.is("row(6, 0, 1)", t.row(6, 0, 1), 8);
        Due.is("a copy of the last", t.move(5, 0), Edges.cornerOf(4));
        Due.is("a copy of the first", t.move(6, 0), Edges.cornerOf(0));
        Due.is("a copy of the copy", t.move(7, 0), Edges.cornerOf(0));
    }

    private static void rowDx() {
        Due.about("Promise 3: -2 if dx is not in -31 .. 31");
        for (int dx : new int[] {-31, -30, -1, 0, 1, 30, 31}) {
            int x = dx < 0 ? 31 : 0;
            BvhTracer t = Edges.with(Edges.at(x, 7, 8), EXTENT);
            Due.is("row(0, " + dx + ", 1)", t.row(0, dx, 1), 2);
            scene("row(0, " + dx + ", 1)", t, Edges.at(x, 7, 8), EXTENT, Edges.at(x + dx, 7, 8), EXTENT);
        }
        for (int dx : Edges.beyond(-31, 31)) {
            for (Edges.Scene scene : Edges.ALL) {
                int due = scene.size() == 0 ? -1 : -2;
                Edges.changesNothing("row(0, " + dx + ", 1)", scene, t -> t.row(0, dx, 1), due);
            }
        }
    }

    private static void rowCount() {
        Due.about("Promise 3: -3 if count is not in 1 .. 13");
        for (int count : new int[] {1, 2, 12, 13}) {
            BvhTracer t = Edges.with(0, 0);
            Due.is("row(0, 1, " + count + ")", t.row(0, 1, count), count + 1);
            Due.is("the last copy", t.move(count, 0), Edges.at(count, 0, 0));
        }
        for (int count : Edges.beyond(1, 13)) {
            for (Edges.Scene scene : Edges.ALL) {
                int due = scene.size() == 0 ? -1 : -3;
                Edges.changesNothing("row(0, 0, " + count + ")", scene, t -> t.row(0, 0, count), due);
            }
        }
    }

    private static void rowAnswersHowMany() {
        Due.about("Promise 3: otherwise answers how many boxes there are now");
        for (Edges.Scene scene : Edges.ALL) {
            if (scene.size() > 0) {
                BvhTracer t = scene.make();
                int due = Math.min(14, scene.size() + 3);
                Due.is("row(0, 0, 3) with " + scene.name(), t.row(0, 0, 3), due);
                Due.is("boxes() with " + scene.name(), t.boxes(), due);
            }
        }
        // A row of which no copy fits is not refused, yet puts nothing in.
        Edges.changesNothing("row(0, -1, 13)", Edges.SOME, t -> t.row(0, -1, 13), 5);
        Edges.changesNothing("row(0, -31, 1)", Edges.ONE, t -> t.row(0, -31, 1), 1);
    }

    private static void rowOrder() {
        Due.about("Promise 3: the tests are made in the order named");
        for (Edges.Scene scene : Edges.ALL) {
            int size = scene.size();
            Edges.changesNothing("row, box and dx wrong", scene, t -> t.row(size, 32, 1), -1);
            Edges.changesNothing("row, box and count wrong", scene, t -> t.row(-1, 1, 0), -1);
            Edges.changesNothing("row, all wrong", scene, t -> t.row(size, -32, 14), -1);
            if (size > 0) {
                Edges.changesNothing("row, dx and count wrong", scene, t -> t.row(0, 32, 0), -2);
                Edges.changesNothing("row, dx and count wrong", scene, t -> t.row(size - 1, -32, 14), -2);
            }
        }
        // Being out of room is no test; the three tests are made all the same.
        Edges.changesNothing("full row, box wrong", Edges.FULL, t -> t.row(14, 1, 1), -1);
        Edges.changesNothing("full row, dx wrong", Edges.FULL, t -> t.row(13, 32, 1), -2);
        Edges.changesNothing("full row, count wrong", Edges.FULL, t -> t.row(13, 31, 14), -3);
    }

    private static void removeNumbers() {
        Due.about("Promise 4: later ones get numbers less by one");
        for (Edges.Scene scene : Edges.ALL) {
            for (int box = 0; box < scene.size(); box++) {
                BvhTracer t = scene.make();
                Due.is("remove(" + box + ")", t.remove(box), scene.size() - 1);
                scene("remove(" + box + ") with " + scene.name(), t, without(box, scene.size()));
            }
        }
    }

    private static int[] without(int box, int size) {
        int[] before = Edges.numbersOf(0, box);
        int[] after = Edges.numbersOf(box + 1, size);
        int[] both = java.util.Arrays.copyOf(before, before.length + after.length);
        System.arraycopy(after, 0, both, before.length, after.length);
        return both;
    }

    private static void removeBox() {
        Due.about("Promise 4: -1 if box is not good");
        for (Edges.Scene scene : Edges.ALL) {
            for (int box : Edges.notGood(scene.size())) {
                Edges.changesNothing("remove(" + box + ")", scene, t -> t.remove(box), -1);
            }
        }
        BvhTracer t = Edges.FULL.make();
        Due.is("remove(13)", t.remove(13), 13);
        Due.is("remove(13) again", t.remove(13), -1);
    }

    private static void removeAnswersHowMany() {
        Due.about("Promise 4: otherwise answers how many are left");
        BvhTracer t = Edges.FULL.make();
        for (int left = 13; left >= 0; left--) {
            Due.is("remove(0)", t.remove(0), left);
            Due.is("boxes()", t.boxes(), left);
        }
        Due.is("remove(0) of none", t.remove(0), -1);
        Due.is("boxes() of none", t.boxes(), 0);
    }

    private static void moveGivesCorner() {
        Due.about("Promise 5: Gives a box another low corner");
        for (int box = 0; box < 14; box++) {
            BvhTracer t = Edges.FULL.make();
            Due.is("move(" + box + ", ..)", t.move(box, CORNER), Edges.cornerOf(box));
            int[] due = Edges.numbersOf(0, 14);
            due[2 * box] = CORNER;
            scene("move(" + box + ", ..)", t, due);
        }
        // The corner it has is another one's value, and no harm.
        Edges.changesNothing("move to where it is", Edges.FULL, t -> t.move(13, cornerOf13()), cornerOf13());
    }

    private static void moveBox() {
        Due.about("Promise 5: -1 if box is not good");
        for (Edges.Scene scene : Edges.ALL) {
            for (int box : Edges.notGood(scene.size())) {
                Edges.changesNothing("move(" + box + ", ..)", scene, t -> t.move(box, CORNER), -1);
            }
            if (scene.size() > 0) {
                int last = scene.size() - 1;
                Due.is("move of the first", scene.make().move(0, CORNER), Edges.cornerOf(0));
                Due.is("move of the last", scene.make().move(last, CORNER), Edges.cornerOf(last));
            }
        }
    }

    private static void moveCorner() {
        Due.about("Promise 5: -2 if corner is not in 0 .. 32767");
        for (int corner : new int[] {0, 1, 32766, 32767}) {
            BvhTracer t = Edges.with(CORNER, EXTENT);
            Due.is("move(0, " + corner + ")", t.move(0, corner), CORNER);
            scene("the box moved to " + corner, t, corner, EXTENT);
        }
        for (int corner : Edges.beyond(0, 32767)) {
            for (Edges.Scene scene : Edges.ALL) {
                int due = scene.size() == 0 ? -1 : -2;
                Edges.changesNothing("move(0, " + corner + ")", scene, t -> t.move(0, corner), due);
            }
        }
    }

    private static void moveAnswersOneBefore() {
        Due.about("Promise 5: otherwise answers the one before");
        BvhTracer t = Edges.with(CORNER, EXTENT);
        Due.is("move from the first corner", t.move(0, 0), CORNER);
        Due.is("move from the least corner", t.move(0, 32767), 0);
        Due.is("move from the greatest corner", t.move(0, 32767), 32767);
        Due.is("move to the same corner", t.move(0, CORNER), 32767);
        Due.is("move refused", t.move(0, 32768), -2);
        Due.is("move after one that was refused", t.move(0, 0), CORNER);
        Due.is("row(0, 31, 1)", t.row(0, 31, 1), 2);
        Due.is("move of a copy", t.move(1, 0), Edges.at(31, 0, 0));
    }

    private static void moveOrder() {
        Due.about("Promise 5: the tests are made in the order named");
        for (Edges.Scene scene : Edges.ALL) {
            int size = scene.size();
            Edges.changesNothing("move, both wrong", scene, t -> t.move(size, 32768), -1);
            Edges.changesNothing("move, both wrong", scene, t -> t.move(-1, -1), -1);
            Edges.changesNothing("move, both far off", scene, t -> t.move(Edges.MAX, Edges.MIN), -1);
        }
    }

    private static void boxesHowMany() {
        Due.about("Promise 8: How many boxes there are (from none to 14)");
        for (Edges.Scene scene : Edges.ALL) {
            Edges.changesNothing("boxes()", scene, t -> t.boxes(), scene.size());
        }
        BvhTracer t = new BvhTracer();
        for (int size = 1; size <= 14; size++) {
            t.add(0, 0);
            Due.is("boxes() after add", t.boxes(), size);
        }
        t.add(0, 0);
        Due.is("boxes() after the 15th add", t.boxes(), 14);
        t.row(0, 0, 13);
        Due.is("boxes() after a row without room", t.boxes(), 14);
    }
}
