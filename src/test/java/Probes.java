import java.util.function.IntPredicate;

/** Methods that show one instruction, one pair of types or one number of places at a time. */
class Probes extends Sentences {
    static final int[] TAKES = {0, 0, 0, 1, 1, 1, 2, 2, 0, 1, 1, 1, 0, 1, 1, 0, 0, 0, 1, 1};
    static final int[] PUTS = {1, 1, 1, 0, 0, 2, 2, 1, 1, 0, 1, 0, 0, 0, 0, 1, 0, 0, 0, 0};
    /** One of each kind of type, and the ends of those that have a number. */
    static final int[] SOME_TYPES = {TOP, INT, NULL, CLASS, CLASS + 7, NEW, NEW + 39, LINK, LINK + 39};
    static final int[] NO_PLACES = {LEAST, -1, 40, GREATEST};

    static boolean jumps(int op) {
        return op >= GO && op <= JSR;
    }

    static boolean ends(int op) {
        return op == RETURN || op == GIVE || op == THROW;
    }

    /**
     * Place 1 is this instruction: a MAP with so many values is there, as place 8 or so jumps to it, and nothing falls
     * there. What it makes goes on to the MAP of place 3. An instruction that jumps is to jump to 4.
     */
    static MapDesk probe(int op, int a, int values) {
        MapDesk x = desk(GO, 5, op, a, GO, 3, RETURN, 0, RETURN, 0);
        for (int i = 0; i < values; i++) {
            x.add(CONST, 0);
        }
        x.add(GO, 1);
        x.lay();
        due("the probe of " + op + " is laid out", x.places() > 1, true);
        return x;
    }

    static MapDesk probe(int op, int a, int[] types) {
        MapDesk x = probe(op, a, types.length - 4);
        for (int slot = 0; slot < types.length; slot++) {
            x.alter(1, slot, types[slot]);
        }
        return x;
    }

    static boolean needsMet(MapDesk x) {
        return x.check() != 1 || x.reason() != MapDesk.NEEDS;
    }

    static boolean needsMet(int op, int a, int... types) {
        return needsMet(probe(op, a, types));
    }

    /** Which types are as the instruction needs them, in a slot of the MAP before it, the other values being INTs. */
    static void dueNeeds(int op, int a, int values, int slot, IntPredicate met) {
        MapDesk x = probe(op, a, values);
        for (int i = 0; i < values; i++) {
            x.alter(1, 4 + i, INT);
        }
        for (int type = 0; type <= 90; type++) {
            x.alter(1, slot, type);
            due("instruction " + op + " with " + type + " in slot " + slot + " has what it needs", needsMet(x), met.test(type));
        }
    }

    /** The type in a slot after an instruction that goes on behind, found as the one that still FITS a MAP there. */
    static int made(int op, int a, int slot, int... types) {
        return madeAt(probe(op, a, types), 2, 3, slot);
    }

    /** The type in a slot at a place that jumps to the MAP of another place, as check sees it. */
    static int madeAt(MapDesk x, int from, int to, int slot) {
        for (int i = 0; i < 10; i++) {
            x.alter(to, i, TOP);
        }
        int first = x.check();
        due("all is so up to place " + from, first < 0 || first > from, true);
        for (int type = 90; type > TOP; type--) {
            x.alter(to, slot, type);
            if (x.check() != from) {
                // NULL FITS each CLASS, so the greatest that it FITS is none of its own.
                x.alter(to, slot, NULL);
                return type <= CLASS + 7 && x.check() != from ? NULL : type;
            }
        }
        return TOP;
    }

    /** What one place has, at place 1, jumps to the MAP of place 3. */
    static MapDesk jumper() {
        MapDesk x = desk(GO, 2, GO, 3, GO, 1, RETURN, 0);
        x.lay();
        return x;
    }

    static boolean fits(MapDesk jumper, int one, int two) {
        jumper.alter(1, 0, one);
        jumper.alter(3, 0, two);
        return jumper.check() != 1;
    }

    static boolean isClass(int type) {
        return type >= CLASS && type <= CLASS + 7;
    }

    /** Two ways to instruction 7 with these types, not TOP, in local 0; what is found there. */
    static int joined(MapDesk x, int one, int two) {
        x.enter(1, one);
        x.enter(2, two);
        put(x, LOAD, 1, STORE, 0, CONST, 0, IF, 5, GO, 7, LOAD, 2, STORE, 0, RETURN, 0);
        due("two ways are laid out", x.lay(), MapDesk.OK);
        return x.type(7, 0);
    }

    static void dueJoin(MapDesk x, int one, int two, int want) {
        due("JOIN of " + one + ", " + two, joined(x, one, two), want);
        due("JOIN of " + two + ", " + one, joined(x, two, one), want);
    }

    static MapDesk kinship(int... pairs) {
        MapDesk x = new MapDesk();
        for (int i = 0; i < pairs.length; i += 2) {
            due("kin(" + pairs[i] + ", " + pairs[i + 1] + ")", x.kin(pairs[i], pairs[i + 1]), true);
        }
        return x;
    }

    /** Class 7 has PARENT 6, that 5, and so on. */
    static MapDesk line() {
        return kinship(1, 0, 2, 1, 3, 2, 4, 3, 5, 4, 6, 5, 7, 6);
    }

    /** Whether an OBJECT of class c is taken for one of class p, by types and in a RUN. */
    static void dueUse(MapDesk x, int c, int p, boolean is) {
        x.enter(0, CLASS + c);
        put(x, LOAD, 0, USE, p, RETURN, 0);
        due("lay of CLASS " + c + " used as " + p, x.lay(), is ? MapDesk.OK : MapDesk.TYPE);
        due("run of CLASS " + c + " used as " + p, x.run(3), is ? MapDesk.RETURNED : MapDesk.STUCK);
    }

    /** So many values as the instruction can take, then that, then RETURN, to which it jumps if it does. */
    static MapDesk filled(int op, int values) {
        MapDesk x = new MapDesk();
        x.enter(3, CLASS + 4);
        for (int i = 0; i < values; i++) {
            boolean takesObject = op == CAST || op == USE || op == IFNULL || op == GIVE || op == THROW;
            x.add(op == INIT ? MAKE : takesObject ? LOAD : CONST, takesObject ? 3 : 0);
        }
        x.add(op, jumps(op) ? values + 1 : op == LOAD ? 3 : 0);
        x.add(RETURN, 0);
        return x;
    }

    static final int AN_INT = 0, A_NOTHING = 1, READY = 2, NOT_READY = 3, A_LINK = 4, KINDS = 5;

    static void push(MapDesk x, int kind, int at) {
        int[] ops = {CONST, NONE, LOAD, MAKE, JSR};
        int[] operands = {5, 0, 3, 4, at + 1};
        x.add(ops[kind], operands[kind]);
    }

    /** How a RUN of this instruction ends, with these kinds of values, the top last; OBJECTS are of class 4. */
    static int runWith(int op, int a, int... kinds) {
        MapDesk x = new MapDesk();
        x.enter(3, CLASS + 4);
        for (int i = 0; i < kinds.length; i++) {
            push(x, kinds[i], i);
        }
        x.add(op, jumps(op) ? kinds.length + 1 : a);
        x.add(RETURN, 0);
        return x.run(50);
    }

    /** First GOs to the next, then JSRs to a subroutine of two, then a tail: extra + 3 * jsrs places, and the tail. */
    static MapDesk many(int extra, int jsrs, int... tail) {
        MapDesk x = new MapDesk();
        for (int i = 0; i < extra; i++) {
            x.add(GO, i + 1);
        }
        for (int i = 0; i < jsrs; i++) {
            x.add(JSR, extra + jsrs + tail.length / 2);
        }
        for (int i = 0; i < tail.length; i += 2) {
            x.add(tail[i], tail[i + 1]);
        }
        x.add(STORE, 0);
        x.add(RET, 0);
        return x;
    }

    static MapDesk forty() {
        return many(0, 13, RETURN, 0);
    }
}
