/** What hand-written tests share: how to put a method on a desk, and what is due of it. */
class Due {
    static final int CONST = 0, NONE = 1, LOAD = 2, STORE = 3, POP = 4, DUP = 5, SWAP = 6, ADD = 7, MAKE = 8, INIT = 9;
    static final int CAST = 10, USE = 11, GO = 12, IF = 13, IFNULL = 14, JSR = 15, RET = 16, RETURN = 17, GIVE = 18, THROW = 19;
    static final int TOP = 0, INT = 1, NULL = 2, CLASS = 3, NEW = 11, LINK = 51;
    static final int LEAST = Integer.MIN_VALUE, GREATEST = Integer.MAX_VALUE;

    static int failures = 0;
    static int answers = 0;
    /** What all that is due now is due for; tests that ask only one thing leave it empty. */
    static String about = "";

    static void due(String what, long got, long want) {
        answers++;
        if (got != want) {
            failures++;
            System.out.println(about + what + ": answered " + got + ", due is " + want);
        }
    }

    static void due(String what, boolean got, boolean want) {
        due(what, got ? 1 : 0, want ? 1 : 0);
    }

    /** Puts instructions, as pairs of op and a, in place of those that are there. */
    static MapDesk put(MapDesk x, int... pairs) {
        x.clear();
        for (int i = 0; i < pairs.length; i += 2) {
            x.add(pairs[i], pairs[i + 1]);
        }
        return x;
    }

    static MapDesk desk(int... pairs) {
        return put(new MapDesk(), pairs);
    }

    static int lay(int... pairs) {
        return desk(pairs).lay();
    }

    static void dueWrong(String what, MapDesk x, int... want) {
        due(what + ": lay", x.lay(), MapDesk.SHAPE);
        for (int i = 0; i < 6; i++) {
            due(what + ": wrong(" + i + ")", x.wrong(i), i < want.length ? want[i] : -1);
        }
        due(what + ": places", x.places(), 0);
    }

    static void dueTypes(String what, MapDesk x, int k, int... want) {
        for (int slot = 0; slot < 12; slot++) {
            due(what + ": type(" + k + ", " + slot + ")", x.type(k, slot), slot < want.length ? want[slot] : -1);
        }
    }

    static void dueMap(String what, MapDesk x, int k, int... want) {
        for (int slot = 0; slot < 12; slot++) {
            due(what + ": map(" + k + ", " + slot + ")", x.map(k, slot), slot < want.length ? want[slot] : -1);
        }
    }

    static void duePlace(String what, MapDesk x, int k, int... want) {
        for (int i = 0; i < want.length; i++) {
            due(what + ": place(" + k + ", " + i + ")", x.place(k, i), want[i]);
        }
    }

    static void dueCheck(String what, MapDesk x, int place, int reason) {
        due(what + ": check", x.check(), place);
        due(what + ": reason", x.reason(), reason);
    }

    static void dueRun(String what, MapDesk x, int most, int... want) {
        due(what + ": run", x.run(most), want[0]);
        for (int i = 1; i < want.length; i++) {
            due(what + ": ended(" + (i - 1) + ")", x.ended(i - 1), want[i]);
        }
    }

    static void dueHeld(String what, MapDesk x, int... want) {
        for (int local = 0; local < want.length; local++) {
            due(what + ": held(" + local + ")", x.held(local, false), want[local]);
        }
    }

    /** Ends the program with 1 if an answer was not as due. */
    static void end() {
        System.out.println(failures + " of " + answers + " answers are not as due");
        if (failures != 0) {
            System.exit(1);
        }
    }
}
