/** Long fixed runs of mixed calls, each answer compared with that of the model. */
public final class ModelTest {
    private static final int RUNS = 3000;
    private static final int CALLS = 512;
    private static final int[] STRANGE = {Integer.MIN_VALUE, Integer.MAX_VALUE, -101, 101, -21, 21,
        -1, 14, 32, -32, 1001, 32768, 40000, 0};

    private static long seed;
    private static BvhTracer tracer;
    private static Model model;

    public static void main(String[] args) {
        for (int run = 0; run < RUNS; run++) {
            seed = run * 7919L + 17;
            tracer = new BvhTracer();
            model = new Model();
            // Small scenes make same times, shared borders and hits common; large ones reach the edges.
            int size = run % 3 == 0 ? 31 : run % 3 == 1 ? 7 : 3;
            for (int call = 0; call < CALLS; call++) {
                step("run " + run + " call " + call + " ", size);
            }
        }
        Due.finish();
    }

    private static int pick(int least, int greatest) {
        seed = seed * 6364136223846793005L + 1442695040888963407L;
        return least + (int) ((seed >>> 33) % (greatest - least + 1));
    }

    /** Mostly a number in the range, now and then one beside or far beyond it. */
    private static int some(int least, int greatest) {
        int chance = pick(0, 99);
        if (chance == 0) {
            return STRANGE[pick(0, STRANGE.length - 1)];
        }
        if (chance == 1) {
            return pick(0, 1) == 0 ? least - 1 : greatest + 1;
        }
        if (chance < 6) {
            return pick(0, 1) == 0 ? least : greatest;
        }
        return pick(least, greatest);
    }

    private static int packed(int size) {
        int chance = pick(0, 99);
        if (chance < 3) {
            return some(0, 32767);
        }
        return pick(0, size) * 1024 + pick(0, size) * 32 + pick(0, size);
    }

    private static int someBox() {
        return some(0, Math.max(0, model.boxes.size() - 1));
    }

    private static void step(String where, int size) {
        int kind = pick(0, 99);
        if (kind < 30) {
            change(where, kind, size);
        } else if (kind < 70) {
            askRay(where, kind);
        } else {
            askScene(where, kind, size);
        }
    }

    private static void change(String where, int kind, int size) {
        int a = packed(size);
        int b = packed(size / 2);
        int box = someBox();
        if (kind < 6) {
            Due.is(where + "add(" + a + ", " + b + ")", tracer.add(a, b), model.add(a, b));
        } else if (kind < 8) {
            int dx = some(-31, 31) / (pick(0, 3) == 0 ? 1 : 8);
            int count = some(1, 13);
            Due.is(where + "row(" + box + ", " + dx + ", " + count + ")",
                    tracer.row(box, dx, count), model.row(box, dx, count));
        } else if (kind < 14) {
            Due.is(where + "remove(" + box + ")", tracer.remove(box), model.remove(box));
        } else if (kind < 18) {
            Due.is(where + "move(" + box + ", " + a + ")", tracer.move(box, a), model.move(box, a));
        } else if (kind < 24) {
            int reach = kind < 20 ? 100 : size;
            int x = some(-reach, reach);
            int y = some(-reach, reach);
            int z = some(-reach, reach);
            Due.is(where + "origin(" + x + ", " + y + ", " + z + ")",
                    tracer.origin(x, y, z), model.origin(x, y, z));
        } else {
            int reach = kind < 26 ? 20 : 2;
            int x = some(-reach, reach);
            int y = some(-reach, reach);
            int z = some(-reach, reach);
            Due.is(where + "direction(" + x + ", " + y + ", " + z + ")",
                    tracer.direction(x, y, z), model.direction(x, y, z));
        }
    }

    private static void askRay(String where, int kind) {
        int box = someBox();
        int top = pick(0, 2) == 0 ? some(0, 1000) : some(0, 20);
        int bottom = pick(0, 2) == 0 ? some(1, 100) : some(1, 6);
        if (pick(0, 3) == 0 && model.hits() > 0) {
            // The very time at which the first box is entered.
            top = model.firstTop();
            bottom = model.firstBottom();
        }
        if (kind < 35) {
            Due.is(where + "first()", tracer.first(), model.first());
        } else if (kind < 40) {
            Due.is(where + "firstTop()", tracer.firstTop(), model.firstTop());
        } else if (kind < 45) {
            Due.is(where + "firstBottom()", tracer.firstBottom(), model.firstBottom());
        } else if (kind < 50) {
            Due.is(where + "hit(" + box + ")", tracer.hit(box), model.hit(box));
        } else if (kind < 54) {
            Due.is(where + "hits()", tracer.hits(), model.hits());
        } else if (kind < 58) {
            Due.is(where + "hitsBefore(" + top + ", " + bottom + ")",
                    tracer.hitsBefore(top, bottom), model.hitsBefore(top, bottom));
        } else if (kind < 62) {
            Due.is(where + "blocked(" + top + ", " + bottom + ")",
                    tracer.blocked(top, bottom), model.blocked(top, bottom));
        } else if (kind < 66) {
            Due.is(where + "leaveTop(" + box + ")", tracer.leaveTop(box), model.leave(box, 0));
        } else {
            Due.is(where + "leaveBottom(" + box + ")", tracer.leaveBottom(box), model.leave(box, 1));
        }
    }

    private static void askScene(String where, int kind, int size) {
        int reach = pick(0, 1) == 0 ? 100 : size;
        int x = some(-reach, reach);
        int y = some(-reach, reach);
        int z = some(-reach, reach);
        if (kind < 74) {
            Due.is(where + "boxes()", tracer.boxes(), model.boxes.size());
        } else if (kind < 82) {
            int px = some(0, size);
            int py = some(0, size);
            int pz = some(0, size);
            Due.is(where + "around(" + px + ", " + py + ", " + pz + ")",
                    tracer.around(px, py, pz), model.around(px, py, pz));
        } else if (kind < 88) {
            int a = packed(size);
            int b = packed(size);
            Due.is(where + "meeting(" + a + ", " + b + ")", tracer.meeting(a, b), model.meeting(a, b));
        } else if (kind < 92) {
            Due.is(where + "touching()", tracer.touching(), model.touching());
        } else {
            Due.is(where + "nearest(" + x + ", " + y + ", " + z + ")",
                    tracer.nearest(x, y, z), model.nearest(x, y, z));
        }
    }
}
