/** The promises of the document, sentence by sentence. */
public final class PromiseSentencesTest extends Probes {
    private static String promise;

    private static void says(String words, Runnable body) {
        test(promise, words, body);
    }

    /** Something is laid out, with a MAP at place 1. */
    private static MapDesk laid() {
        MapDesk x = desk(GO, 1, RETURN, 0);
        x.lay();
        return x;
    }

    private static void dueLaid(String what, MapDesk x) {
        due(what + ": it is still laid out", x.places(), 2);
        due(what + ": the MAP is still there", x.map(1, 3), TOP);
    }

    private static void dueNothingLaid(String what, MapDesk x) {
        due(what + ": places", x.places(), 0);
        due(what + ": place", x.place(0, 0), -1);
        due(what + ": type", x.type(0, 0), -1);
        due(what + ": map", x.map(1, 0), -1);
        due(what + ": alter", x.alter(1, 0, 0), false);
        due(what + ": check", x.check(), -2);
    }

    private static void newObject() {
        promise = "Promise 1";
        says("`MapDesk()`: PARENTs 0", () -> {
            for (int c = 1; c < 8; c++) {
                MapDesk x = new MapDesk();
                for (int p = 0; p < 8; p++) {
                    dueUse(x, c, p, p == c || p == 0);
                }
            }
        });
        says("LOCALS TOP", () -> {
            MapDesk x = desk(RETURN, 0);
            x.lay();
            dueTypes("LOCALS", x, 0, TOP, TOP, TOP, TOP);
            x.run(1);
            dueHeld("LOCALS", x, 0, 0, 0, 0);
        });
        says("no instructions or HANDLERS", () -> {
            due("lay", new MapDesk().lay(), MapDesk.BAD);
            due("clear", new MapDesk().clear(), 0);
            due("the first instruction", new MapDesk().add(RETURN, 0), 1);
            due("the first HANDLER", new MapDesk().handler(0, 1, 0, 0), 1);
            MapDesk x = new MapDesk();
            x.add(RETURN, 0);
            x.lay();
            due("no HANDLER leads anywhere", x.places(), 1);
        });
        says("nothing is laid out.", () -> {
            dueNothingLaid("new", new MapDesk());
            MapDesk x = new MapDesk();
            for (int what = -1; what < 8; what++) {
                due("wrong(" + what + ")", x.wrong(what), -1);
                due("place(0, " + what + ")", x.place(0, what), -1);
                due("ended(" + what + ")", x.ended(what), -1);
            }
            due("reason", x.reason(), 0);
            due("held", x.held(0, false), -1);
            due("held, number", x.held(0, true), 0);
        });
        allSaid(promise);
    }

    private static void kin() {
        promise = "Promise 2";
        says("`boolean kin(int c, int p)`: Class c has PARENT p: true.", () -> {
            MapDesk x = new MapDesk();
            for (int c = 1; c < 8; c++) {
                for (int p = 0; p < c; p++) {
                    due("kin(" + c + ", " + p + ")", x.kin(c, p), true);
                }
            }
            dueUse(x, 7, 6, true);
            dueUse(x, 1, 0, true);
            x.kin(7, 2);
            dueUse(x, 7, 6, false);
            dueUse(x, 7, 2, true);
            x.kin(7, 0);
            dueUse(x, 7, 2, false);
        });
        says("False, and nothing changes, if c is not 1..7", () -> {
            MapDesk x = laid();
            for (int c : new int[] {LEAST, -8, -1, 0, 8, 9, 15, 16, GREATEST}) {
                for (int p : new int[] {LEAST, -1, 0, 7, GREATEST}) {
                    due("kin(" + c + ", " + p + ")", x.kin(c, p), false);
                }
            }
            dueLaid("refused", x);
            dueUse(x, 7, 6, false);
            dueUse(x, 1, 0, true);
        });
        says("or p not 0..c - 1.", () -> {
            MapDesk x = laid();
            for (int c = 1; c < 8; c++) {
                for (int p : new int[] {LEAST, -1, c, c + 1, 8, GREATEST}) {
                    due("kin(" + c + ", " + p + ")", x.kin(c, p), false);
                }
            }
            dueLaid("refused", x);
            x.kin(5, 3);
            x.kin(5, 5);
            x.kin(5, -1);
            x.kin(5, 6);
            dueUse(x, 5, 3, true);
            dueUse(x, 5, 6, false);
        });
        says("(What kin, enter, add, handler and clear change, or answer without BAD, FULL or false, ends what is laid out.)", () -> {
            MapDesk x = laid();
            x.kin(7, 6);
            dueNothingLaid("kin", x);
            x = laid();
            x.kin(7, 0);
            dueNothingLaid("kin that changes nothing", x);
            x = laid();
            x.enter(3, INT);
            dueNothingLaid("enter", x);
            x = laid();
            x.enter(3, TOP);
            dueNothingLaid("enter that changes nothing", x);
            x = laid();
            x.add(RETURN, 0);
            dueNothingLaid("add", x);
            x = laid();
            x.handler(23, 24, 0, 0);
            dueNothingLaid("handler", x);
            x = laid();
            x.clear();
            dueNothingLaid("clear", x);
            x = laid();
            x.kin(0, 0);
            x.enter(4, 0);
            x.add(20, 0);
            x.handler(0, 0, 0, 0);
            dueLaid("all refused", x);
            x.check();
            x.reason();
            x.run(9);
            x.run(0);
            x.ended(0);
            x.held(0, true);
            x.wrong(0);
            dueLaid("all others", x);
            x.kin(1, 0);
            due("it may be laid out again", x.lay() + x.places(), 2);
        });
        allSaid(promise);
    }

    private static void enter() {
        promise = "Promise 3";
        says("`boolean enter(int local, int type)`: A LOCAL begins with a type: true", () -> {
            MapDesk x = desk(RETURN, 0);
            for (int local = 0; local < 4; local++) {
                for (int type = 0; type <= 10; type++) {
                    due("enter(" + local + ", " + type + ")", x.enter(local, type), true);
                    x.lay();
                    due("type of " + local, x.type(0, local), type);
                }
            }
            dueTypes("each of its own", x, 0, 10, 10, 10, 10);
        });
        says("false if there is no such LOCAL", () -> {
            MapDesk x = laid();
            for (int local : new int[] {LEAST, -1, 4, 5, GREATEST}) {
                for (int type = 0; type <= 10; type++) {
                    due("enter(" + local + ", " + type + ")", x.enter(local, type), false);
                }
            }
            dueLaid("refused", x);
            dueTypes("refused", x, 0, TOP, TOP, TOP, TOP);
        });
        says("or the type is not 0..10.", () -> {
            MapDesk x = laid();
            for (int local = 0; local < 4; local++) {
                for (int type : new int[] {LEAST, -1, 11, 50, 51, 90, 91, GREATEST}) {
                    due("enter(" + local + ", " + type + ")", x.enter(local, type), false);
                }
            }
            dueLaid("refused", x);
            x.enter(2, NULL);
            x.enter(2, 11);
            x.enter(2, -1);
            x.lay();
            dueTypes("refused", x, 0, TOP, TOP, NULL, TOP);
        });
        allSaid(promise);
    }

    /** Which operands are taken: 0 .. last, and no others. */
    private static void dueOperands(int last, int... ops) {
        for (int op : ops) {
            for (int a : new int[] {LEAST, -1, 0, 1, last, last + 1, last + 2, 255, GREATEST}) {
                due("add(" + op + ", " + a + ")", new MapDesk().add(op, a), a >= 0 && a <= last ? 1 : MapDesk.BAD);
            }
        }
    }

    private static void add() {
        promise = "Promise 4";
        says("`int add(int op, int a)`: A further instruction: how many there are.", () -> {
            MapDesk x = new MapDesk();
            for (int i = 1; i <= 24; i++) {
                due("add", x.add(RETURN, 0), i);
            }
            x.clear();
            due("after clear", x.add(RETURN, 0), 1);
        });
        says("BAD if op is not 0..19", () -> {
            for (int op : new int[] {LEAST, -1, 20, 21, 32, GREATEST}) {
                MapDesk x = laid();
                due("add(" + op + ", 0)", x.add(op, 0), MapDesk.BAD);
                dueLaid("refused", x);
                due("none was added", x.clear(), 2);
            }
            for (int op = 0; op < 20; op++) {
                due("add(" + op + ", 0)", new MapDesk().add(op, 0), 1);
            }
        });
        says("or a, for LOAD, STORE and RET, not 0..3", () -> dueOperands(3, LOAD, STORE, RET));
        says("MAKE, CAST, USE and GIVE, not 0..7", () -> dueOperands(7, MAKE, CAST, USE, GIVE));
        says("GO, IF, IFNULL and JSR, not 0..23", () -> {
            dueOperands(23, GO, IF, IFNULL, JSR);
            MapDesk x = laid();
            for (int op = LOAD; op <= GIVE; op++) {
                if (op < POP || op == MAKE || op >= CAST && op <= RET || op == GIVE) {
                    due("refused", x.add(op, -1), MapDesk.BAD);
                }
            }
            dueLaid("refused", x);
            due("none was added", x.clear(), 2);
        });
        says("(CONST takes any, others do not look at it)", () -> {
            for (int op : new int[] {CONST, NONE, POP, DUP, SWAP, ADD, INIT, RETURN, THROW}) {
                for (int a : new int[] {LEAST, -1, 0, 3, 4, 7, 8, 23, 24, GREATEST}) {
                    due("add(" + op + ", " + a + ")", new MapDesk().add(op, a), 1);
                }
            }
            for (int a : new int[] {LEAST, -1, 24, GREATEST}) {
                MapDesk x = desk(CONST, a, NONE, a, SWAP, a, POP, a, POP, a, MAKE, 5, DUP, a, INIT, a, DUP, a, POP, a, THROW, a);
                due("with " + a, x.lay(), MapDesk.OK);
                dueRun("with " + a, x, 20, MapDesk.THROWN, 11, 10, 5);
                x = desk(CONST, a, CONST, 0, ADD, a, STORE, 0, RETURN, a);
                dueRun("with " + a, x, 20, MapDesk.RETURNED, 5, 4, -1);
                due("with " + a, x.held(0, true), a);
            }
        });
        says("; FULL.", () -> {
            MapDesk x = new MapDesk();
            for (int i = 0; i < 24; i++) {
                x.add(GO, 0);
            }
            x.lay();
            for (int op = 0; op < 20; op++) {
                due("add(" + op + ", 0)", x.add(op, 0), MapDesk.FULL);
            }
            due("it is still laid out", x.places(), 1);
            due("none was added", x.clear(), 24);
        });
        allSaid(promise);
    }

    private static void handler() {
        promise = "Promise 5";
        says("`int handler(int from, int to, int target, int c)`: A further HANDLER: how many there are.", () -> {
            MapDesk x = desk(RETURN, 0);
            for (int i = 1; i <= 4; i++) {
                due("handler", x.handler(0, 24, 23, 7), i);
            }
            x.clear();
            due("after clear", x.handler(0, 1, 0, 0), 1);
        });
        says("BAD if not 0 <= from < to <= 24", () -> {
            int[] ends = {LEAST, -1, 0, 1, 2, 22, 23, 24, 25, GREATEST};
            for (int from : ends) {
                for (int to : ends) {
                    boolean good = 0 <= from && from < to && to <= 24;
                    due("handler(" + from + ", " + to + ", 0, 0)", new MapDesk().handler(from, to, 0, 0), good ? 1 : MapDesk.BAD);
                }
            }
            MapDesk x = laid();
            due("refused", x.handler(1, 1, 0, 0), MapDesk.BAD);
            dueLaid("refused", x);
            due("none was added", x.handler(0, 1, 0, 0), 1);
        });
        says("target is not 0..23", () -> {
            for (int target : new int[] {LEAST, -1, 0, 23, 24, 25, GREATEST}) {
                due("target " + target, new MapDesk().handler(0, 1, target, 0), target >= 0 && target <= 23 ? 1 : MapDesk.BAD);
            }
            MapDesk x = laid();
            due("refused", x.handler(0, 1, 24, 0), MapDesk.BAD);
            dueLaid("refused", x);
            due("none was added", x.handler(0, 1, 0, 0), 1);
        });
        says("or c not 0..7", () -> {
            for (int c : new int[] {LEAST, -1, 0, 7, 8, 9, GREATEST}) {
                due("class " + c, new MapDesk().handler(0, 1, 0, c), c >= 0 && c <= 7 ? 1 : MapDesk.BAD);
            }
            MapDesk x = laid();
            due("refused", x.handler(0, 1, 0, 8), MapDesk.BAD);
            dueLaid("refused", x);
            due("none was added", x.handler(0, 1, 0, 0), 1);
        });
        says("; FULL.", () -> {
            MapDesk x = desk(GO, 1, RETURN, 0, RETURN, 0);
            for (int i = 0; i < 4; i++) {
                x.handler(2, 3, 2, 0);
            }
            x.lay();
            due("a fifth", x.handler(0, 1, 2, 0), MapDesk.FULL);
            dueLaid("refused", x);
            x.lay();
            due("none was added", x.places(), 2);
        });
        allSaid(promise);
    }

    private static void clear() {
        promise = "Promise 6";
        says("`int clear()`: No instructions or HANDLERS are there then", () -> {
            MapDesk x = desk(RETURN, 0, RETURN, 0);
            for (int i = 0; i < 4; i++) {
                x.handler(0, 1, 1, 0);
            }
            x.clear();
            due("no instructions", x.lay(), MapDesk.BAD);
            due("no instructions", x.run(9), MapDesk.BAD);
            due("an instruction", x.add(RETURN, 0), 1);
            due("no HANDLERS", x.lay(), MapDesk.OK);
            due("no HANDLERS", x.places(), 1);
            due("a HANDLER", x.handler(0, 1, 0, 0), 1);
            for (int left = 0; left < 4; left++) {
                x = new MapDesk();
                for (int i = 0; i < 4; i++) {
                    x.handler(1, 4, 2, 0);
                }
                put(x, CONST, 0, STORE, 0, NONE, 0, THROW, 0);
                for (int i = 0; i < left; i++) {
                    x.handler(20, 21, 0, 0);
                }
                due("HANDLERS that were cover nothing: lay", x.lay(), MapDesk.OK);
                due("nor make a MAP", x.place(2, 6), 0);
                dueTypes("nor give types", x, 2, INT, TOP, TOP, TOP);
                dueCheck("nor are checked", x, -1, 0);
                dueRun("nor catch", x, 9, MapDesk.THROWN, 4, 3, 2);
            }
        });
        says("(PARENTs and LOCALS stay)", () -> {
            MapDesk x = line();
            x.enter(0, INT);
            x.enter(3, CLASS + 7);
            x.clear();
            put(x, LOAD, 3, USE, 1, RETURN, 0);
            due("PARENTs", x.lay(), MapDesk.OK);
            dueTypes("LOCALS", x, 0, INT, TOP, TOP, CLASS + 7);
            due("PARENTs", x.run(9), MapDesk.RETURNED);
            dueHeld("LOCALS", x, 1, 0, 0, 10);
        });
        says(": how many instructions there were.", () -> {
            for (int count : new int[] {0, 1, 2, 23, 24}) {
                MapDesk x = new MapDesk();
                for (int i = 0; i < count; i++) {
                    x.add(RETURN, 0);
                }
                x.handler(0, 1, 0, 0);
                due("clear of " + count, x.clear(), count);
                due("clear again", x.clear(), 0);
            }
            MapDesk x = new MapDesk();
            for (int i = 0; i < 25; i++) {
                x.add(RETURN, 0);
            }
            x.add(LOAD, 9);
            due("those refused are not there", x.clear(), 24);
        });
        allSaid(promise);
    }

    private static void lay() {
        promise = "Promise 7";
        says("`int lay()`: Lays the method out: BAD if it has no instructions", () -> {
            due("new", new MapDesk().lay(), MapDesk.BAD);
            MapDesk x = laid();
            x.clear();
            due("cleared", x.lay(), MapDesk.BAD);
            dueNothingLaid("cleared", x);
            x = new MapDesk();
            x.handler(0, 1, 0, 0);
            due("a HANDLER alone", x.lay(), MapDesk.BAD);
        });
        says("or a jump or HANDLER leads behind the last one (nothing is laid out then)", () -> {
            for (int op : new int[] {GO, IF, IFNULL, JSR}) {
                for (int a : new int[] {2, 3, 23}) {
                    MapDesk x = desk(RETURN, 0, op, a);
                    due(op + " to " + a + " of 2, though never come to", x.lay(), MapDesk.BAD);
                    dueNothingLaid(op + " to " + a + " of 2", x);
                }
                due(op + " to the last", lay(RETURN, 0, op, 1), MapDesk.OK);
            }
            due("come to", lay(GO, 1), MapDesk.BAD);
            for (int at = 0; at < 23; at++) {
                MapDesk x = new MapDesk();
                for (int i = 0; i < 23; i++) {
                    x.add(i == at ? GO : RETURN, i == at ? 23 : 0);
                }
                due("GO 23 at " + at + " of 23", x.lay(), MapDesk.BAD);
                x.add(RETURN, 0);
                due("GO 23 at " + at + " of 24", x.lay(), MapDesk.OK);
            }
            due("LOAD and so on lead nowhere", lay(RETURN, 0, LOAD, 3, STORE, 3, MAKE, 7, RET, 3, CONST, 99), MapDesk.OK);
            for (int target : new int[] {2, 23}) {
                MapDesk x = desk(RETURN, 0, RETURN, 0);
                x.handler(0, 1, target, 0);
                due("HANDLER to " + target + " of 2", x.lay(), MapDesk.BAD);
                dueNothingLaid("HANDLER to " + target + " of 2", x);
                x = desk(RETURN, 0, RETURN, 0);
                x.handler(22, 24, target, 0);
                due("HANDLER to " + target + " of 2, though it covers none", x.lay(), MapDesk.BAD);
                x.add(RETURN, 0);
                due("HANDLER to " + target + " of 3", x.lay(), target == 2 ? MapDesk.OK : MapDesk.BAD);
            }
            MapDesk x = desk(RETURN, 0, RETURN, 0);
            x.handler(0, 24, 1, 0);
            due("HANDLER to the last", x.lay(), MapDesk.OK);
            x = desk(RETURN, 0, RETURN, 0);
            x.handler(0, 1, 1, 0);
            x.handler(0, 1, 1, 0);
            x.handler(0, 1, 1, 0);
            x.handler(0, 1, 2, 0);
            due("the fourth HANDLER", x.lay(), MapDesk.BAD);
            x = new MapDesk();
            for (int i = 0; i < 24; i++) {
                x.add(GO, 23);
            }
            due("24 instructions, to the last", x.lay(), MapDesk.OK);
        });
        says("; SHAPE if places are WRONG or too many (likewise)", () -> {
            MapDesk x = desk(POP, 0, RETURN, 0);
            due("WRONG", x.lay(), MapDesk.SHAPE);
            dueNothingLaid("WRONG", x);
            x = many(1, 13, RETURN, 0);
            due("too many", x.lay(), MapDesk.SHAPE);
            dueNothingLaid("too many", x);
            due("BAD comes first", lay(POP, 0, GO, 2), MapDesk.BAD);
        });
        says("; else it is: OK, MAPS being the FRAMES found", () -> {
            MapDesk x = desk(CONST, 0, NONE, 0, GO, 3, RETURN, 0);
            x.enter(1, CLASS + 7);
            due("lay", x.lay(), MapDesk.OK);
            dueMap("the FRAME", x, 3, TOP, CLASS + 7, TOP, TOP, INT, NULL);
            dueTypes("the FRAME", x, 3, TOP, CLASS + 7, TOP, TOP, INT, NULL);
            x.alter(3, 1, INT);
            x.alter(3, 5, INT);
            due("lay again", x.lay(), MapDesk.OK);
            dueMap("the FRAME again", x, 3, TOP, CLASS + 7, TOP, TOP, INT, NULL);
            x = desk(GO, 0);
            for (int local = 0; local < 4; local++) {
                x.enter(local, CLASS + local);
            }
            x.lay();
            dueMap("at the first place", x, 0, CLASS, CLASS + 1, CLASS + 2, CLASS + 3);
            x = forty();
            x.lay();
            due("the MAP behind the last JSR", x.map(13, 0), LINK + 12);
            due("the MAP behind the first JSR", x.map(14, 0), TOP);
            x.enter(3, INT);
            x.lay();
            for (int k = 0; k < 40; k++) {
                due("what was found before does not matter: place " + k, x.type(k, 3), INT);
            }
        });
        says("; TYPE if there are none: MAPS are all TOP, with as many values as come there.", () -> {
            MapDesk x = desk(CONST, 0, CONST, 0, CONST, 0, CONST, 0, CONST, 0, CONST, 0, GO, 7, LOAD, 0, RETURN, 0);
            x.enter(1, INT);
            due("too many values are SHAPE, whatever the types", x.lay(), MapDesk.SHAPE);
            put(x, CONST, 0, CONST, 0, CONST, 0, CONST, 0, CONST, 0, CONST, 0, GO, 7, IFNULL, 8, RETURN, 0);
            due("lay", x.lay(), MapDesk.TYPE);
            due("places", x.places(), 9);
            due("six values", x.place(7, 1), 6);
            dueMap("six values", x, 7, TOP, TOP, TOP, TOP, TOP, TOP, TOP, TOP, TOP, TOP);
            dueMap("five values", x, 8, TOP, TOP, TOP, TOP, TOP, TOP, TOP, TOP, TOP);
            put(x, LOAD, 0, GO, 2, RETURN, 0, RETURN, 0);
            x.handler(0, 1, 3, 4);
            due("lay", x.lay(), MapDesk.TYPE);
            dueMap("a HANDLER", x, 3, TOP, TOP, TOP, TOP, TOP);
            x.alter(3, 4, INT);
            x.lay();
            dueMap("again", x, 3, TOP, TOP, TOP, TOP, TOP);
        });
        allSaid(promise);
    }

    private static void wrong() {
        promise = "Promise 8";
        says("`int wrong(int what)`: Of the first WRONG place, in order, if the latest lay was SHAPE", () -> {
            dueWrong("by instruction, not as come to", desk(GO, 3, POP, 0, RETURN, 0, CONST, 0, IF, 1, POP, 0, RETURN, 0), 2, 1, 0);
            dueWrong("fewer CALLS first", desk(CONST, 0, IF, 4, POP, 0, RETURN, 0, JSR, 5, POP, 0, POP, 0), 2, 2, 0);
            dueWrong("then the first CALL", desk(CONST, 0, IF, 3, JSR, 4, JSR, 4, POP, 0, POP, 0), 1, 5, 1, 2);
            MapDesk x = desk(POP, 0, RETURN, 0);
            x.lay();
            x.clear();
            x.kin(2, 1);
            x.run(9);
            due("what comes behind that lay does not matter", x.wrong(0), 2);
            x.lay();
            due("another lay does", x.wrong(0), -1);
        });
        says("what 0: the least number of what is WRONG", () -> {
            dueWrong("1 and 2", desk(POP, 0), 1, 0, 0);
            dueWrong("1 and 3", desk(CONST, 0, CONST, 0, CONST, 0, CONST, 0, CONST, 0, CONST, 0, CONST, 0), 1, 6, 0);
            dueWrong("2 and 6", desk(CONST, 0, IF, 3, CONST, 0, POP, 0, RETURN, 0), 2, 3, 0);
            dueWrong("3 and 6", desk(CONST, 0, GO, 0), 3, 0, 0);
            dueWrong("3 and 4", desk(JSR, 1, CONST, 0, DUP, 0, DUP, 0, DUP, 0, DUP, 0, GO, 0), 3, 0, 1, 0);
            dueWrong("5 and 6", desk(CONST, 0, IF, 3, CONST, 0, RET, 0), 5, 3, 0);
            dueWrong("4 and 6", desk(JSR, 1, CONST, 0, IF, 0, RETURN, 0), 4, 0, 1, 0);
        });
        says("; 1: its instruction", () -> {
            MapDesk x = new MapDesk();
            for (int i = 0; i < 23; i++) {
                x.add(GO, i + 1);
            }
            x.add(POP, 0);
            dueWrong("the last of 24", x, 1, 23, 0);
            dueWrong("the first", desk(POP, 0, RETURN, 0), 2, 0, 0);
        });
        says("; 2: how many CALLS, 3..5: the CALLS.", () -> {
            dueWrong("none", desk(POP, 0, RETURN, 0), 2, 0, 0);
            dueWrong("one", desk(JSR, 1, ADD, 0, RETURN, 0), 2, 1, 1, 0);
            dueWrong("two", desk(JSR, 1, JSR, 2, POP, 0, ADD, 0, RETURN, 0), 2, 3, 2, 0, 1);
            dueWrong("three", desk(JSR, 1, JSR, 2, JSR, 3, POP, 0, POP, 0, ADD, 0, RETURN, 0), 2, 5, 3, 0, 1, 2);
        });
        says("If it was 7, that for what 0 only.", () -> {
            dueWrong("41 places", many(1, 13, RETURN, 0), 7);
            MapDesk x = many(0, 13, POP, 0, RETURN, 0);
            dueWrong("40 places", x, 2, 13, 0);
            x.handler(13, 14, 14, 0);
            dueWrong("a WRONG place leads to no 41st", x, 2, 13, 0);
            x.handler(12, 13, 14, 0);
            dueWrong("41 places, and another lay before", x, 7);
        });
        says("-1 if there is none, it was not SHAPE, or for others.", () -> {
            MapDesk x = desk(POP, 0, RETURN, 0);
            x.lay();
            for (int what : new int[] {LEAST, LEAST + 1, LEAST + 2, -2, -1, 3, 4, 5, 6, 7, 8, GREATEST - 1, GREATEST}) {
                due("wrong(" + what + ")", x.wrong(what), -1);
            }
            x = desk(JSR, 1, JSR, 2, JSR, 3, JSR, 4, RETURN, 0);
            x.lay();
            for (int what : new int[] {LEAST, LEAST + 1, LEAST + 2, -1, 6, 7, GREATEST}) {
                due("with three CALLS: wrong(" + what + ")", x.wrong(what), -1);
            }
            MapDesk[] others = {desk(RETURN, 0), desk(LOAD, 0, RETURN, 0), desk(GO, 1), new MapDesk()};
            int[] lays = {MapDesk.OK, MapDesk.TYPE, MapDesk.BAD, MapDesk.BAD};
            for (int i = 0; i < 4; i++) {
                due("lay", others[i].lay(), lays[i]);
                for (int what = -1; what < 8; what++) {
                    due("wrong(" + what + ") after lay " + lays[i], others[i].wrong(what), -1);
                }
            }
        });
        allSaid(promise);
    }

    private static void places() {
        promise = "Promise 9";
        says("`int places()`: How many places are laid out.", () -> {
            MapDesk x = new MapDesk();
            due("none", x.places(), 0);
            x.add(RETURN, 0);
            due("not before lay", x.places(), 0);
            x.lay();
            due("one", x.places(), 1);
            x.add(RETURN, 0);
            due("ended", x.places(), 0);
            x.lay();
            due("those come to", x.places(), 1);
            x = forty();
            x.lay();
            due("40", x.places(), 40);
            x = many(1, 13, RETURN, 0);
            x.lay();
            due("41", x.places(), 0);
            x = desk(LOAD, 0, RETURN, 0);
            due("TYPE", x.lay(), MapDesk.TYPE);
            due("TYPE", x.places(), 2);
        });
        allSaid(promise);
        promise = "Promise 10";
        says("`int place(int k, int what)`: Of place k what 0: its instruction", () -> {
            MapDesk x = desk(GO, 3, RETURN, 0, RETURN, 0, GO, 2);
            x.lay();
            due("place 0", x.place(0, 0), 0);
            due("place 1", x.place(1, 0), 2);
            due("place 2", x.place(2, 0), 3);
        });
        says("; 1: how many values come there", () -> {
            MapDesk x = desk(CONST, 0, DUP, 0, DUP, 0, DUP, 0, DUP, 0, DUP, 0, RETURN, 0);
            x.lay();
            for (int k = 0; k < 7; k++) {
                due("values at place " + k, x.place(k, 1), k);
            }
        });
        says("; 2: how many CALLS, 3..5: the CALLS", () -> {
            MapDesk x = desk(GO, 1, JSR, 2, JSR, 3, JSR, 4, RETURN, 0);
            x.lay();
            duePlace("none", x, 1, 1, 0, 0, -1, -1, -1);
            duePlace("one", x, 2, 2, 1, 1, 1, -1, -1);
            duePlace("two", x, 3, 3, 2, 2, 1, 2, -1);
            duePlace("three", x, 4, 4, 3, 3, 1, 2, 3);
        });
        says("; 6: 1 if it has a MAP, else 0.", () -> {
            MapDesk x = laid();
            due("no MAP", x.place(0, 6), 0);
            due("a MAP", x.place(1, 6), 1);
            put(x, CONST, 0, RETURN, 0);
            x.lay();
            due("another lay, no MAP", x.place(1, 6), 0);
            put(x, GO, 0);
            x.lay();
            due("a MAP at the first place", x.place(0, 6), 1);
            put(x, RETURN, 0);
            x.lay();
            due("no MAP at the first place", x.place(0, 6), 0);
            x = many(0, 12, JSR, 15, STORE, 0, STORE, 0, POP, 0, JSR, 17, RETURN, 0);
            x.lay();
            due("a MAP at the last of 40", x.place(39, 6), 1);
            x.clear();
            for (int i = 0; i < 13; i++) {
                x.add(JSR, 14);
            }
            x.add(RETURN, 0);
            x.add(STORE, 0);
            x.add(RET, 0);
            x.lay();
            due("40", x.places(), 40);
            due("no MAP at the last of 40", x.place(39, 6), 0);
        });
        says("-1 if there is none, or for others.", () -> {
            MapDesk x = laid();
            for (int k : new int[] {LEAST, -1, 2, 3, 40, GREATEST}) {
                for (int what = 0; what < 7; what++) {
                    due("place(" + k + ", " + what + ")", x.place(k, what), -1);
                }
            }
            for (int what : new int[] {LEAST, LEAST + 1, LEAST + 2, -1, 3, 4, 5, 7, 8, GREATEST}) {
                due("place(1, " + what + ")", x.place(1, what), -1);
            }
            x = forty();
            x.lay();
            for (int k : NO_PLACES) {
                due("of 40, place " + k, x.place(k, 0), -1);
            }
        });
        allSaid(promise);
    }

    private static void types() {
        promise = "Promise 11";
        says("`int type(int k, int slot)`: The type of a place as found: slot 0..3 a LOCAL, 4.. the STACK from its lowest value on", () -> {
            MapDesk x = desk(CONST, 0, NONE, 0, MAKE, 1, NONE, 0, NONE, 0, CONST, 0, RETURN, 0);
            for (int local = 0; local < 4; local++) {
                x.enter(local, CLASS + local);
            }
            x.lay();
            dueTypes("six values", x, 6, CLASS, CLASS + 1, CLASS + 2, CLASS + 3, INT, NULL, NEW + 2, NULL, NULL, INT);
            dueTypes("none", x, 0, CLASS, CLASS + 1, CLASS + 2, CLASS + 3);
            x = laid();
            x.alter(1, 0, INT);
            due("as found, whatever the MAP says", x.type(1, 0), TOP);
        });
        says("; -1 if lay was not OK, or there is none.", () -> {
            MapDesk x = desk(LOAD, 0, RETURN, 0);
            due("TYPE", x.lay(), MapDesk.TYPE);
            dueTypes("TYPE", x, 0);
            x = desk(POP, 0, RETURN, 0);
            x.lay();
            dueTypes("SHAPE", x, 0);
            x = desk(GO, 1);
            x.lay();
            dueTypes("BAD", x, 0);
            dueTypes("no lay", desk(RETURN, 0), 0);
            x = laid();
            for (int k : new int[] {LEAST, -1, 2, 40, GREATEST}) {
                dueTypes("no such place", x, k);
            }
            for (int slot : new int[] {LEAST, -1, 4, 5, 9, 10, 11, GREATEST}) {
                due("no such slot: " + slot, x.type(0, slot), -1);
            }
            x = desk(CONST, 0, DUP, 0, DUP, 0, DUP, 0, DUP, 0, DUP, 0, RETURN, 0);
            x.lay();
            due("the sixth value", x.type(6, 9), INT);
            due("no seventh value", x.type(6, 10), -1);
            due("no sixth value", x.type(5, 9), -1);
        });
        allSaid(promise);
    }

    private static void maps() {
        promise = "Promise 12";
        says("`int map(int k, int slot)`: The same of the MAP of a place", () -> {
            MapDesk x = desk(CONST, 0, NONE, 0, MAKE, 1, NONE, 0, NONE, 0, CONST, 0, GO, 7, RETURN, 0);
            for (int local = 0; local < 4; local++) {
                x.enter(local, CLASS + local);
            }
            x.lay();
            dueMap("six values", x, 7, CLASS, CLASS + 1, CLASS + 2, CLASS + 3, INT, NULL, NEW + 2, NULL, NULL, INT);
            for (int k : new int[] {LEAST, -1, 8, 40, GREATEST}) {
                dueMap("no such place", x, k);
            }
            for (int slot : new int[] {LEAST, -1, 10, 11, GREATEST}) {
                due("no such slot: " + slot, x.map(7, slot), -1);
            }
            x.alter(7, 9, LINK + 39);
            due("altered", x.map(7, 9), 90);
            x = desk(LOAD, 0, GO, 2, RETURN, 0);
            due("TYPE", x.lay(), MapDesk.TYPE);
            dueMap("TYPE", x, 2, TOP, TOP, TOP, TOP, TOP);
        });
        says("; -1 if it has none.", () -> {
            MapDesk x = laid();
            dueMap("no MAP", x, 0);
            dueMap("a MAP", x, 1, TOP, TOP, TOP, TOP);
            x.add(RETURN, 0);
            dueMap("ended", x, 1);
        });
        allSaid(promise);
        promise = "Promise 13";
        says("`boolean alter(int k, int slot, int type)`: Another type in a MAP: true", () -> {
            MapDesk x = desk(CONST, 0, DUP, 0, DUP, 0, DUP, 0, DUP, 0, DUP, 0, GO, 7, RETURN, 0);
            x.lay();
            for (int type = 0; type <= 90; type++) {
                due("alter to " + type, x.alter(7, type % 10, type), true);
                due("altered to " + type, x.map(7, type % 10), type);
            }
            dueMap("each slot of its own", x, 7, 90, 81, 82, 83, 84, 85, 86, 87, 88, 89);
        });
        says("; false, and nothing changes, if there is no such MAP or slot", () -> {
            MapDesk x = laid();
            for (int k : new int[] {LEAST, -1, 0, 2, 3, 40, GREATEST}) {
                for (int slot = 0; slot < 4; slot++) {
                    due("alter(" + k + ", " + slot + ", 1)", x.alter(k, slot, INT), false);
                }
            }
            for (int slot : new int[] {LEAST, -1, 4, 9, 10, GREATEST}) {
                due("alter(1, " + slot + ", 1)", x.alter(1, slot, INT), false);
            }
            dueMap("nothing changes", x, 1, TOP, TOP, TOP, TOP);
            dueTypes("nothing changes", x, 0, TOP, TOP, TOP, TOP);
            due("nothing changes", x.check(), -1);
            x.add(RETURN, 0);
            due("ended", x.alter(1, 0, INT), false);
            x = desk(CONST, 0, GO, 2, POP, 0, GO, 4, RETURN, 0);
            x.lay();
            due("its slots end with its values", x.alter(2, 5, NULL), false);
            due("the last of them", x.alter(2, 4, NULL), true);
            dueMap("another MAP", x, 4, TOP, TOP, TOP, TOP);
        });
        says("or type is not 0..90.", () -> {
            MapDesk x = laid();
            x.alter(1, 2, 90);
            for (int type : new int[] {LEAST, -1, 91, 92, 128, GREATEST}) {
                due("alter to " + type, x.alter(1, 2, type), false);
                due("nothing changes", x.map(1, 2), 90);
            }
        });
        allSaid(promise);
    }

    /** Place 4 has a MAP with NULL in local 0; at place 3, which is this instruction, it is an INT. */
    private static MapDesk noFall(int op, int a) {
        MapDesk x = desk(CONST, 0, IF, 5, NONE, 0, op, a, RETURN, 0, NONE, 0, STORE, 0, GO, 4, RETURN, 0);
        x.enter(0, INT);
        due("lay with " + op, x.lay(), MapDesk.OK);
        due("the MAP behind " + op, x.map(4, 0), NULL);
        return x;
    }

    private static void checkFrames() {
        promise = "Promise 14";
        says("`int check()`: One pass over the places in order, with a FRAME that first is that of the first place", () -> {
            MapDesk x = desk(LOAD, 2, IF, 2, RETURN, 0);
            x.enter(2, INT);
            x.lay();
            dueCheck("the types with which the LOCALS begin", x, -1, 0);
            x = desk(GO, 3, LOAD, 0, RETURN, 0, NONE, 0, STORE, 0, GO, 1);
            due("lay", x.lay(), MapDesk.OK);
            x.alter(1, 0, INT);
            dueCheck("a MAP is believed until a jump to it is seen", x, 5, MapDesk.JUMP);
            x.alter(1, 0, TOP);
            dueCheck("in order, not as places are come to", x, 1, MapDesk.NEEDS);
        });
        says("; with each place: if it has a MAP: the FRAME, if there is one, must FIT it, type by type (else FALL)", () -> {
            for (int slot = 0; slot < 10; slot++) {
                MapDesk x = desk(CONST, 0, DUP, 0, DUP, 0, DUP, 0, DUP, 0, DUP, 0, GO, 6);
                x.lay();
                dueCheck("as found", x, -1, 0);
                x.alter(6, slot, LINK);
                dueCheck("a LINK in slot " + slot, x, 6, MapDesk.FALL);
                x.alter(6, slot, TOP);
                dueCheck("TOP in slot " + slot, x, -1, 0);
            }
            MapDesk x = desk(GO, 0);
            x.enter(2, INT);
            x.lay();
            x.alter(0, 2, NULL);
            dueCheck("at the first place", x, 0, MapDesk.FALL);
            x = kinship(7, 5);
            x.enter(3, CLASS + 7);
            put(x, CONST, 0, IF, 2, RETURN, 0);
            x.lay();
            x.alter(2, 3, CLASS + 5);
            dueCheck("an ancestor", x, -1, 0);
            x = desk(GO, 2, RETURN, 0, GO, 1);
            x.lay();
            x.alter(1, 0, INT);
            dueCheck("there is none behind GO", x, 2, MapDesk.JUMP);
            x = desk(NONE, 0, GO, 2, RETURN, 0);
            x.lay();
            put(x, CONST, 0, IF, 2, RETURN, 0);
            x.lay();
            dueCheck("of what was taken, and of a MAP that was, nothing is left to FIT", x, -1, 0);
        });
        says(", and the FRAME is that MAP then.", () -> {
            MapDesk x = desk(CONST, 0, STORE, 0, CONST, 0, IF, 4, LOAD, 0, IF, 6, RETURN, 0);
            x.lay();
            dueCheck("as found", x, -1, 0);
            x.alter(4, 0, TOP);
            dueCheck("it falls there, and the MAP says less", x, 4, MapDesk.NEEDS);
            x = desk(GO, 4, LOAD, 0, GIVE, 3, RETURN, 0, NONE, 0, STORE, 0, GO, 1);
            x.lay();
            dueCheck("as found", x, -1, 0);
            x.alter(1, 0, CLASS + 3);
            dueCheck("nothing falls there, NULL is CLASS 3 then", x, -1, 0);
            x.alter(1, 0, CLASS + 4);
            dueCheck("nothing falls there, NULL is CLASS 4 then", x, 2, MapDesk.NEEDS);
            x = desk(RETURN, 0, RETURN, 0);
            x.enter(1, INT);
            x.handler(0, 2, 1, 0);
            x.lay();
            x.alter(1, 1, TOP);
            dueCheck("its LOCALS go to HANDLERS", x, -1, 0);
        });
        says("For each HANDLER that covers it: its LOCALS must FIT the MAP of the target, and CLASS c the one value there (else CAUGHT).", () -> {
            for (int local = 0; local < 4; local++) {
                MapDesk x = desk(CONST, 0, RETURN, 0, RETURN, 0);
                x.enter(local, INT);
                x.handler(1, 2, 2, 5);
                x.lay();
                dueCheck("as found", x, -1, 0);
                x.alter(2, local, NULL);
                dueCheck("local " + local, x, 1, MapDesk.CAUGHT);
                x.alter(2, local, TOP);
                dueCheck("TOP in local " + local, x, -1, 0);
            }
            MapDesk x = kinship(5, 4);
            put(x, CONST, 0, NONE, 0, RETURN, 0, RETURN, 0);
            x.handler(2, 3, 3, 5);
            x.lay();
            for (int type = 0; type <= 90; type++) {
                x.alter(3, 4, type);
                boolean good = type == TOP || type == CLASS + 5 || type == CLASS + 4 || type == CLASS;
                dueCheck("CLASS 5 to " + type, x, good ? -1 : 2, good ? 0 : MapDesk.CAUGHT);
            }
            for (int h = 1; h < 5; h++) {
                x = desk(RETURN, 0, RETURN, 0, RETURN, 0, RETURN, 0, RETURN, 0);
                for (int i = 1; i < 5; i++) {
                    x.handler(0, 1, i, i);
                }
                x.lay();
                x.alter(h, 4, INT);
                dueCheck("HANDLER " + h, x, 0, MapDesk.CAUGHT);
            }
            x = desk(CONST, 0, STORE, 0, RETURN, 0, RETURN, 0);
            x.enter(0, NULL);
            x.handler(1, 2, 3, 0);
            x.lay();
            x.alter(3, 0, NULL);
            dueCheck("its LOCALS as they are before the instruction", x, -1, 0);
            x = desk(CONST, 0, IF, 3, RETURN, 0, JSR, 2, RETURN, 0);
            x.handler(2, 3, 4, 0);
            x.lay();
            due("the target without CALLS", x.place(4, 2), 0);
            due("the target with a CALL", x.place(6, 3), 3);
            x.alter(6, 0, INT);
            dueCheck("the target with the same CALLS", x, 5, MapDesk.CAUGHT);
        });
    }

    private static void checkInstructions() {
        says("The types must be as the instruction needs them (else NEEDS).", () -> {
            MapDesk x = desk(CONST, 0, GO, 2, IF, 3, RETURN, 0);
            x.lay();
            dueCheck("as found", x, -1, 0);
            x.alter(2, 4, TOP);
            dueCheck("not so", x, 2, MapDesk.NEEDS);
            x = desk(LOAD, 0, GO, 2, RETURN, 0);
            due("TYPE", x.lay(), MapDesk.TYPE);
            dueCheck("TYPE", x, 0, MapDesk.NEEDS);
        });
        says("What it makes must FIT the MAP to which it leads by GO, IF, IFNULL, JSR or RET (else JUMP).", () -> {
            MapDesk x = desk(CONST, 0, GO, 2, RETURN, 0);
            x.lay();
            x.alter(2, 4, NULL);
            dueCheck("GO", x, 1, MapDesk.JUMP);
            x = desk(NONE, 0, CONST, 0, IF, 4, RETURN, 0, RETURN, 0);
            x.lay();
            x.alter(4, 4, INT);
            dueCheck("IF, without what it takes", x, 2, MapDesk.JUMP);
            x.alter(4, 4, CLASS + 2);
            dueCheck("IF", x, -1, 0);
            x = desk(CONST, 0, NONE, 0, IFNULL, 4, RETURN, 0, RETURN, 0);
            x.lay();
            x.alter(4, 4, NULL);
            dueCheck("IFNULL, without what it takes", x, 2, MapDesk.JUMP);
            x = desk(JSR, 2, RETURN, 0, STORE, 0, RET, 0);
            x.lay();
            x.alter(2, 4, LINK + 1);
            dueCheck("JSR", x, 0, MapDesk.JUMP);
            x.alter(2, 4, LINK);
            x.alter(1, 0, INT);
            dueCheck("RET", x, 3, MapDesk.JUMP);
            x.alter(1, 0, TOP);
            dueCheck("RET", x, -1, 0);
            for (int slot = 0; slot < 10; slot++) {
                x = desk(CONST, 0, DUP, 0, DUP, 0, DUP, 0, DUP, 0, DUP, 0, GO, 8, RETURN, 0, RETURN, 0);
                x.lay();
                x.alter(7, slot, LINK);
                dueCheck("a LINK in slot " + slot, x, 6, MapDesk.JUMP);
                x.alter(7, slot, TOP);
                dueCheck("TOP in slot " + slot, x, -1, 0);
            }
        });
        says("Where it goes on behind that is the FRAME for the next place", () -> {
            MapDesk x = desk(CONST, 0, STORE, 3, LOAD, 3, IF, 4, RETURN, 0);
            x.lay();
            dueCheck("from place to place", x, -1, 0);
            x = desk(CONST, 0, THROW, 0);
            x.lay();
            dueCheck("from place to place", x, 1, MapDesk.NEEDS);
            x = desk(NONE, 0, CONST, 0, IF, 5, USE, 0, RETURN, 0, RETURN, 0);
            x.lay();
            dueCheck("behind IF", x, -1, 0);
            x = desk(CONST, 0, NONE, 0, IFNULL, 5, USE, 0, RETURN, 0, RETURN, 0);
            x.lay();
            dueCheck("behind IFNULL", x, 3, MapDesk.NEEDS);
            x = desk(CONST, 0, IF, 2, RETURN, 0);
            x.lay();
            x.alter(2, 3, INT);
            dueCheck("to a place with a MAP, but the jump is seen first", x, 1, MapDesk.JUMP);
            x = desk(GO, 3, CONST, 0, RETURN, 0, CONST, 0, STORE, 0, GO, 1);
            x.lay();
            x.alter(1, 1, INT);
            dueCheck("what a MAP says is in it", x, 5, MapDesk.JUMP);
        });
        says("; else there is none.", () -> {
            dueCheck("behind GO", noFall(GO, 8), -1, 0);
            dueCheck("behind JSR", noFall(JSR, 8), -1, 0);
            dueCheck("behind RETURN", noFall(RETURN, 0), -1, 0);
            dueCheck("behind GIVE", noFall(GIVE, 0), -1, 0);
            dueCheck("behind THROW", noFall(THROW, 0), -1, 0);
            MapDesk x = desk(JSR, 2, RETURN, 0, STORE, 0, CONST, 0, IF, 7, RET, 0, RETURN, 0, NONE, 0, STORE, 0, GO, 6);
            due("lay with RET", x.lay(), MapDesk.OK);
            due("the MAP behind RET", x.map(6, 0), NULL);
            dueCheck("behind RET", x, -1, 0);
            x = desk(JSR, 3, RETURN, 0, RETURN, 0, POP, 0, NONE, 0, STORE, 0, GO, 1);
            x.enter(0, INT);
            x.lay();
            due("the MAP of the first place with CALLS", x.map(1, 0), NULL);
            dueCheck("between CALLS", x, -1, 0);
        });
        says("Answers the first place where one of this is not so", () -> {
            MapDesk x = desk(GO, 2, RETURN, 0, GO, 4, RETURN, 0, GO, 5, RETURN, 0);
            x.lay();
            due("places", x.places(), 4);
            for (int k = 3; k > 0; k--) {
                x.alter(k, 0, INT);
                dueCheck("place " + k + " says INT", x, k - 1, MapDesk.JUMP);
            }
            x = forty();
            x.lay();
            x.alter(13, 0, LINK + 11);
            dueCheck("the last place", x, 39, MapDesk.JUMP);
        });
        says("; -1 if there is none", () -> {
            MapDesk x = forty();
            x.lay();
            due("40 places", x.check(), -1);
            due("again", x.check(), -1);
            due("one place", laid().check(), -1);
            x = desk(LOAD, 0, RETURN, 0);
            x.enter(0, INT);
            x.lay();
            due("without MAPS", x.check(), -1);
        });
        says("; -2 if nothing is laid out.", () -> {
            due("new", new MapDesk().check(), -2);
            due("no lay", desk(RETURN, 0).check(), -2);
            MapDesk x = desk(POP, 0, RETURN, 0);
            x.lay();
            due("SHAPE", x.check(), -2);
            x = desk(GO, 1);
            x.lay();
            due("BAD", x.check(), -2);
            x = laid();
            x.add(RETURN, 0);
            due("ended", x.check(), -2);
            x = desk(LOAD, 0, RETURN, 0);
            x.lay();
            due("TYPE", x.check(), 0);
        });
        says("(MAKE at place p counts NEW p", () -> {
            MapDesk x = desk(GO, 3, RETURN, 0, RETURN, 0, MAKE, 6, GO, 5, RETURN, 0);
            x.lay();
            due("instruction 3 is place 1", x.map(3, 4), NEW + 1);
            for (int type = 1; type <= 90; type++) {
                x.alter(3, 4, type);
                dueCheck("MAKE at place 1 to " + type, x, type == NEW + 1 ? -1 : 2, type == NEW + 1 ? 0 : MapDesk.JUMP);
            }
        });
        says("; INIT of a NEW p where there is no MAKE is not as needed.)", () -> {
            MapDesk x = desk(GO, 4, INIT, 0, RETURN, 0, RETURN, 0, MAKE, 3, GO, 1);
            x.lay();
            due("the MAKE is place 3", x.map(1, 4), NEW + 3);
            for (int p = 0; p < 40; p++) {
                x.alter(1, 4, NEW + p);
                dueCheck("INIT of NEW " + p, x, p == 3 ? -1 : 1, p == 3 ? 0 : MapDesk.NEEDS);
            }
            x = desk(GO, 1, GO, 2, GO, 3, GO, 4, GO, 6, RETURN, 0, RETURN, 0);
            x.lay();
            put(x, GO, 4, INIT, 0, RETURN, 0, RETURN, 0, MAKE, 3, GO, 1, MAKE, 3);
            due("lay", x.lay(), MapDesk.OK);
            due("places", x.places(), 5);
            x.alter(1, 4, NEW + 5);
            dueCheck("a MAKE that is not come to is none", x, 1, MapDesk.NEEDS);
            x = many(2, 11, GO, 16, INIT, 0, RETURN, 0, MAKE, 4, GO, 14);
            x.lay();
            due("places", x.places(), 40);
            for (int p = 0; p < 40; p++) {
                x.alter(14, 4, NEW + p);
                dueCheck("of 40, INIT of NEW " + p, x, p == 16 ? -1 : 14, p == 16 ? 0 : MapDesk.NEEDS);
            }
        });
        allSaid(promise);
    }

    private static void reason() {
        promise = "Promise 15";
        says("`int reason()`: FALL, CAUGHT, NEEDS or JUMP: what was first not so at the place that the latest check answered", () -> {
            MapDesk x = desk(GO, 4, IF, 3, RETURN, 0, RETURN, 0, CONST, 0, GO, 1, RETURN, 0);
            x.handler(1, 2, 6, 0);
            due("lay", x.lay(), MapDesk.OK);
            dueCheck("as found", x, -1, 0);
            x.alter(3, 0, INT);
            dueCheck("JUMP", x, 1, MapDesk.JUMP);
            x.alter(1, 4, NULL);
            dueCheck("NEEDS before JUMP", x, 1, MapDesk.NEEDS);
            x.alter(6, 0, INT);
            dueCheck("CAUGHT before NEEDS", x, 1, MapDesk.CAUGHT);
            x.alter(6, 0, TOP);
            due("alter does not matter", x.reason(), MapDesk.CAUGHT);
            dueCheck("the latest check does", x, 1, MapDesk.NEEDS);
            x = desk(GO, 0, RETURN, 0);
            x.handler(0, 1, 1, 0);
            x.lay();
            x.alter(1, 4, INT);
            dueCheck("CAUGHT", x, 0, MapDesk.CAUGHT);
            x.alter(0, 0, INT);
            dueCheck("FALL before CAUGHT", x, 0, MapDesk.FALL);
            x.run(9);
            x.add(RETURN, 0);
            due("nor what ends the layout", x.reason(), MapDesk.FALL);
        });
        says("; 0 if that was below 0", () -> {
            MapDesk x = laid();
            x.alter(1, 0, INT);
            dueCheck("not so", x, 0, MapDesk.JUMP);
            x.alter(1, 0, TOP);
            dueCheck("-1", x, -1, 0);
            x.alter(1, 0, INT);
            dueCheck("not so", x, 0, MapDesk.JUMP);
            x.clear();
            dueCheck("-2", x, -2, 0);
        });
        says(", or there was none since the latest lay.", () -> {
            due("new", new MapDesk().reason(), 0);
            due("no check", laid().reason(), 0);
            MapDesk x = laid();
            x.alter(1, 0, INT);
            dueCheck("not so", x, 0, MapDesk.JUMP);
            x.lay();
            due("lay OK", x.reason(), 0);
            x.alter(1, 0, INT);
            dueCheck("not so", x, 0, MapDesk.JUMP);
            put(x, LOAD, 0, RETURN, 0);
            due("lay TYPE", x.lay() + x.reason(), MapDesk.TYPE);
            dueCheck("not so", x, 0, MapDesk.NEEDS);
            put(x, POP, 0, RETURN, 0);
            due("before lay SHAPE", x.reason(), MapDesk.NEEDS);
            due("lay SHAPE", x.lay() + x.reason(), MapDesk.SHAPE);
            put(x, LOAD, 0, RETURN, 0);
            x.lay();
            dueCheck("not so", x, 0, MapDesk.NEEDS);
            x.clear();
            due("lay BAD", x.lay() + x.reason(), MapDesk.BAD);
        });
        allSaid(promise);
    }

    private static void run() {
        promise = "Promise 16";
        says("`int run(int most)`: A RUN: how it ends: RETURNED, GIVEN, THROWN, STUCK", () -> {
            due("RETURNED", desk(RETURN, 0).run(1), MapDesk.RETURNED);
            due("GIVEN", desk(NONE, 0, GIVE, 0).run(2), MapDesk.GIVEN);
            due("THROWN", desk(NONE, 0, THROW, 0).run(2), MapDesk.THROWN);
            due("STUCK", desk(POP, 0, RETURN, 0).run(1), MapDesk.STUCK);
            due("nothing need be laid out, nor could be", desk(CONST, 0, IF, 3, RETURN, 0, POP, 0).run(9), MapDesk.RETURNED);
        });
        says(", or LONG if so many instructions were begun and another one would be.", () -> {
            int[] line = {CONST, 0, POP, 0, NONE, 0, POP, 0, RETURN, 0};
            for (int most = 1; most < 8; most++) {
                boolean over = most < 5;
                dueRun("run(" + most + ")", desk(line), most, over ? MapDesk.LONG : MapDesk.RETURNED, over ? most : 5, over ? most : 4, -1);
            }
            dueRun("200", desk(GO, 0), 200, MapDesk.LONG, 200, 0, -1);
            dueRun("no other would be begun behind the last", desk(CONST, 0), 1, MapDesk.STUCK, 1, 1, -1);
            dueRun("one that would be STUCK would be begun", desk(CONST, 0, ADD, 0), 1, MapDesk.LONG, 1, 1, -1);
            dueRun("GIVE is the last of so many", desk(NONE, 0, GIVE, 0), 2, MapDesk.GIVEN, 2, 1, -1);
            dueRun("THROW is the last of so many", desk(NONE, 0, THROW, 0), 2, MapDesk.THROWN, 2, 1, 2);
            MapDesk x = desk(NONE, 0, THROW, 0, RETURN, 0);
            x.handler(1, 2, 2, 0);
            dueRun("what is thrown is caught", x, 2, MapDesk.LONG, 2, 2, -1);
            x = desk(CONST, 1, IF, 0, RETURN, 0);
            dueRun("a jump", x, 200, MapDesk.LONG, 200, 0, -1);
            dueRun("a jump", x, 199, MapDesk.LONG, 199, 1, -1);
        });
        says("BAD, and nothing changes, if most is not 1..200", () -> {
            MapDesk x = desk(CONST, 4, STORE, 0, NONE, 0, THROW, 0);
            dueRun("run", x, 9, MapDesk.THROWN, 4, 3, 2);
            for (int most : new int[] {LEAST, -200, -1, 0, 201, 202, 456, GREATEST}) {
                dueRun("run(" + most + ")", x, most, MapDesk.BAD, 4, 3, 2);
                due("nothing changes", x.held(0, true), 4);
            }
            due("run(1)", x.run(1), MapDesk.LONG);
            due("run(200)", x.run(200), MapDesk.THROWN);
            x = desk(RETURN, 0);
            dueRun("no RUN yet", x, 0, MapDesk.BAD, -1, -1, -1);
            due("no RUN yet", x.held(0, false), -1);
        });
        says(", or lay would be BAD.", () -> {
            MapDesk x = desk(CONST, 4, STORE, 0, NONE, 0, THROW, 0);
            x.run(9);
            x.clear();
            dueRun("no instructions", x, 9, MapDesk.BAD, 4, 3, 2);
            put(x, RETURN, 0, GO, 2);
            dueRun("a jump leads behind the last", x, 9, MapDesk.BAD, 4, 3, 2);
            put(x, RETURN, 0);
            x.handler(5, 6, 1, 0);
            dueRun("a HANDLER leads behind the last", x, 9, MapDesk.BAD, 4, 3, 2);
            dueHeld("nothing changes", x, 1, 0, 0, 0);
            due("nothing changes", x.held(0, true), 4);
            due("lay would be SHAPE", desk(RET, 0).run(9), MapDesk.STUCK);
            due("lay would be TYPE", desk(LOAD, 0, RETURN, 0).run(9), MapDesk.STUCK);
            due("places would be too many", many(1, 13, RETURN, 0).run(200), MapDesk.RETURNED);
        });
        says("(It changes nothing of what is laid out.)", () -> {
            MapDesk x = desk(MAKE, 3, DUP, 0, STORE, 0, INIT, 0, GO, 5, RETURN, 0);
            x.lay();
            x.alter(5, 1, INT);
            dueCheck("before", x, 4, MapDesk.JUMP);
            x.run(3);
            x.run(200);
            due("places", x.places(), 6);
            duePlace("place", x, 5, 5, 0, 0, -1, -1, -1, 1);
            dueTypes("types", x, 5, CLASS + 3, TOP, TOP, TOP);
            dueMap("MAP", x, 5, CLASS + 3, INT, TOP, TOP);
            due("reason", x.reason(), MapDesk.JUMP);
            dueCheck("check", x, 4, MapDesk.JUMP);
            x = desk(POP, 0, RETURN, 0);
            x.lay();
            x.run(9);
            due("wrong", x.wrong(0), 2);
        });
        allSaid(promise);
    }

    private static void ended() {
        promise = "Promise 17";
        says("`int ended(int what)`: Of the latest RUN what 0: how many instructions were begun (the one at which it was STUCK, too, but not behind the last)", () -> {
            dueRun("RETURN counts", desk(CONST, 0, RETURN, 0), 9, MapDesk.RETURNED, 2);
            dueRun("THROW counts", desk(NONE, 0, THROW, 0), 9, MapDesk.THROWN, 2);
            dueRun("STUCK counts", desk(CONST, 0, POP, 0, POP, 0), 9, MapDesk.STUCK, 3);
            dueRun("behind the last does not", desk(CONST, 0, POP, 0), 9, MapDesk.STUCK, 2);
            dueRun("LONG: that one does not", desk(CONST, 0, POP, 0), 1, MapDesk.LONG, 1);
            MapDesk x = desk(GO, 0);
            x.run(200);
            x.run(7);
            due("the latest", x.ended(0), 7);
            x.clear();
            x.lay();
            due("whatever came since", x.ended(0), 7);
        });
        says("; 1: the instruction at which it ended, or that would be next", () -> {
            dueRun("RETURNED", desk(CONST, 0, RETURN, 0), 9, MapDesk.RETURNED, 2, 1);
            dueRun("GIVEN", desk(GO, 2, RETURN, 0, NONE, 0, GIVE, 0), 9, MapDesk.GIVEN, 3, 3);
            dueRun("THROWN", desk(GO, 2, RETURN, 0, NONE, 0, USE, 0, RETURN, 0), 9, MapDesk.THROWN, 3, 3);
            dueRun("STUCK", desk(GO, 2, RETURN, 0, POP, 0), 9, MapDesk.STUCK, 2, 2);
            dueRun("LONG", desk(GO, 2, RETURN, 0, GO, 1), 1, MapDesk.LONG, 1, 2);
            dueRun("LONG", desk(GO, 2, RETURN, 0, GO, 1), 2, MapDesk.LONG, 2, 1);
        });
        says("; 2: the class of the OBJECT that it gave, or that was thrown", () -> {
            for (int c = 0; c < 8; c++) {
                MapDesk x = desk(LOAD, 0, GIVE, 0);
                x.enter(0, CLASS + c);
                dueRun("GIVE", x, 9, MapDesk.GIVEN, 2, 1, c);
                put(x, LOAD, 0, THROW, 0);
                dueRun("THROW", x, 9, MapDesk.THROWN, 2, 1, c);
            }
            MapDesk x = desk(LOAD, 0, CAST, 5, RETURN, 0);
            x.enter(0, CLASS + 7);
            dueRun("CAST", x, 9, MapDesk.THROWN, 2, 1, 1);
            dueRun("USE", desk(NONE, 0, USE, 5, RETURN, 0), 9, MapDesk.THROWN, 2, 1, 2);
        });
        says("; -1 if there is none, there was no RUN, or for others.", () -> {
            MapDesk x = desk(LOAD, 0, THROW, 0, RETURN, 0);
            x.enter(0, CLASS + 7);
            for (int what = -1; what < 4; what++) {
                due("no RUN: ended(" + what + ")", x.ended(what), -1);
            }
            x.lay();
            x.run(0);
            due("a BAD one is none", x.ended(0), -1);
            x.run(9);
            for (int what : new int[] {LEAST, -1, 3, 4, GREATEST}) {
                due("ended(" + what + ")", x.ended(what), -1);
            }
            due("the class", x.ended(2), 7);
            x.handler(1, 2, 2, 0);
            dueRun("none: it was caught", x, 9, MapDesk.RETURNED, 3, 2, -1);
            dueRun("none: LONG", desk(GO, 0), 9, MapDesk.LONG, 9, 0, -1);
        });
        allSaid(promise);
    }

    private static void held() {
        promise = "Promise 18";
        says("`int held(int local, boolean number)`: What a LOCAL held when the latest RUN ended", () -> {
            MapDesk x = desk(CONST, 1, STORE, 0, CONST, 2, STORE, 1, CONST, 3, STORE, 2, CONST, 4, STORE, 3, RETURN, 0);
            x.run(2);
            dueHeld("after two", x, 1, 0, 0, 0);
            x.run(4);
            dueHeld("after four", x, 1, 1, 0, 0);
            x.run(9);
            for (int local = 0; local < 4; local++) {
                due("local " + local, x.held(local, true), local + 1);
            }
            x.clear();
            x.enter(0, NULL);
            x.lay();
            due("whatever came since", x.held(0, true), 1);
            x = desk(MAKE, 4, DUP, 0, STORE, 0, INIT, 0, THROW, 0);
            x.run(9);
            due("when it was STUCK", x.held(0, false), 7);
        });
        says(": 0 no value, 1 an int, 2 NOTHING", () -> {
            MapDesk x = desk(CONST, 2, STORE, 1, NONE, 0, STORE, 2, RETURN, 0);
            x.run(9);
            dueHeld("values", x, 0, 1, 2, 0);
        });
        says(", 3 + c a READY OBJECT of class c, 11 + c one that is not", () -> {
            for (int c = 0; c < 8; c++) {
                MapDesk x = desk(MAKE, c, DUP, 0, STORE, 1, STORE, 2, MAKE, c, DUP, 0, STORE, 3, INIT, 0, RETURN, 0);
                x.run(20);
                dueHeld("class " + c, x, 0, 11 + c, 11 + c, 3 + c);
            }
        });
        says(", 51 + i a LINK to JSR i", () -> {
            for (int i = 1; i < 22; i++) {
                MapDesk x = desk(GO, i);
                for (int k = 1; k < 22; k++) {
                    x.add(JSR, 22);
                }
                x.add(STORE, 2);
                x.add(RETURN, 0);
                x.run(9);
                due("JSR " + i, x.held(2, false), 51 + i);
                due("its int", x.held(2, true), 0);
            }
        });
        says("; its int (number true), 0 if it is none.", () -> {
            for (int number : new int[] {LEAST, -1, 0, 1, GREATEST}) {
                MapDesk x = desk(CONST, number, STORE, 3, RETURN, 0);
                x.run(9);
                due("the int " + number, x.held(3, true), number);
                due("no value", x.held(0, true), 0);
            }
            MapDesk x = desk(JSR, 1, STORE, 0, NONE, 0, STORE, 1, MAKE, 7, STORE, 2, MAKE, 6, POP, 0, RETURN, 0);
            x.enter(3, CLASS + 6);
            x.run(20);
            for (int local = 0; local < 4; local++) {
                due("none in local " + local, x.held(local, true), 0);
            }
            x = desk(GO, 2, RETURN, 0, CONST, 9, STORE, 0, JSR, 5, STORE, 0, RETURN, 0);
            x.run(20);
            due("an int that was there is no more", x.held(0, true), 0);
        });
        says("-1 if there is no such LOCAL, or there was no RUN (0 with number).", () -> {
            MapDesk x = desk(CONST, 5, STORE, 3, RETURN, 0);
            for (int local : new int[] {LEAST, -1, 0, 3, 4, GREATEST}) {
                due("no RUN: held(" + local + ")", x.held(local, false), -1);
                due("no RUN: held(" + local + "), number", x.held(local, true), 0);
            }
            x.run(9);
            for (int local : new int[] {LEAST, -1, 4, 5, 9, 10, GREATEST}) {
                due("held(" + local + ")", x.held(local, false), -1);
                due("held(" + local + "), number", x.held(local, true), 0);
            }
            x = desk(CONST, 5, RETURN, 0);
            x.run(9);
            due("what is in the STACK is in no LOCAL", x.held(4, true), 0);
        });
        allSaid(promise);
    }

    private static void orderAndLimits() {
        promise = "Promise 19";
        says("add and handler: BAD is tested before FULL.", () -> {
            MapDesk x = new MapDesk();
            for (int i = 0; i < 24; i++) {
                x.add(RETURN, 0);
            }
            for (int i = 0; i < 4; i++) {
                x.handler(0, 1, 1, 0);
            }
            due("op", x.add(20, 0), MapDesk.BAD);
            due("op", x.add(-1, 0), MapDesk.BAD);
            due("local", x.add(LOAD, 4), MapDesk.BAD);
            due("class", x.add(MAKE, 8), MapDesk.BAD);
            due("target", x.add(GO, 24), MapDesk.BAD);
            due("FULL", x.add(GO, 23), MapDesk.FULL);
            due("from", x.handler(-1, 1, 1, 0), MapDesk.BAD);
            due("to", x.handler(1, 1, 1, 0), MapDesk.BAD);
            due("to", x.handler(1, 25, 1, 0), MapDesk.BAD);
            due("target", x.handler(0, 1, 24, 0), MapDesk.BAD);
            due("class", x.handler(0, 1, 1, 8), MapDesk.BAD);
            due("FULL", x.handler(0, 24, 23, 7), MapDesk.FULL);
        });
        says("check: the FRAME at first has the types with which the LOCALS begin, and an empty STACK (not what was found for the first place).", () -> {
            MapDesk x = desk(CONST, 0, STORE, 0, GO, 0);
            x.enter(0, NULL);
            x.lay();
            due("found for the first place", x.type(0, 0), TOP);
            x.alter(0, 0, NULL);
            dueCheck("NULL, with which it begins, FITS; the jump back does not", x, 2, MapDesk.JUMP);
            x.alter(0, 0, INT);
            dueCheck("NULL FITS no INT", x, 0, MapDesk.FALL);
            x.alter(0, 0, CLASS + 7);
            dueCheck("NULL FITS a CLASS", x, 2, MapDesk.JUMP);
            x = desk(LOAD, 0, USE, 0, CONST, 0, STORE, 0, GO, 0);
            x.enter(0, CLASS);
            due("TYPE", x.lay(), MapDesk.TYPE);
            x.alter(0, 0, CLASS);
            dueCheck("after TYPE", x, 4, MapDesk.JUMP);
        });
        says("wrong: with more than 40 places what 0 is 7, whatever else is WRONG, and the others are -1.", () -> {
            MapDesk x = many(1, 13, POP, 0);
            dueWrong("41, one of them WRONG", x, 7);
            x = many(0, 14, RETURN, 0);
            x.handler(0, 1, 0, 0);
            dueWrong("43, the first of them WRONG", x, 7);
            for (int what : new int[] {LEAST, -1, 1, 2, 3, 4, 5, 6, GREATEST}) {
                due("wrong(" + what + ")", x.wrong(what), -1);
            }
            put(x, POP, 0, RETURN, 0);
            dueWrong("another lay", x, 2, 0, 0);
            put(x, GO, 1, RETURN, 0);
            due("a third lay", x.lay(), MapDesk.OK);
            due("places", x.places(), 2);
        });
        says("ended: of a RUN that was STUCK because it went on behind the last instruction what 1 is the number of instructions", () -> {
            dueRun("one", desk(CONST, 0), 9, MapDesk.STUCK, 1, 1);
            dueRun("three", desk(GO, 2, RETURN, 0, CONST, 0), 9, MapDesk.STUCK, 2, 3);
            dueRun("IF", desk(CONST, 0, IF, 0), 9, MapDesk.STUCK, 2, 2);
            MapDesk x = new MapDesk();
            for (int i = 0; i < 24; i++) {
                x.add(i % 2 == 0 ? CONST : POP, 0);
            }
            dueRun("24", x, 24, MapDesk.STUCK, 24, 24);
        });
        says("; what 2 is the class of the OBJECT with which the RUN ended (GIVEN, or THROWN and not caught), -1 if it ended otherwise or gave NOTHING.", () -> {
            MapDesk x = desk(LOAD, 0, GIVE, 0);
            x.enter(0, CLASS + 6);
            dueRun("GIVEN", x, 9, MapDesk.GIVEN, 2, 1, 6);
            dueRun("NOTHING", desk(NONE, 0, GIVE, 0), 9, MapDesk.GIVEN, 2, 1, -1);
            put(x, LOAD, 0, THROW, 0, LOAD, 0, POP, 0, RETURN, 0);
            dueRun("THROWN", x, 9, MapDesk.THROWN, 2, 1, 6);
            x.handler(1, 2, 2, 0);
            dueRun("caught, then RETURNED", x, 9, MapDesk.RETURNED, 5, 4, -1);
            dueRun("caught, then LONG", x, 3, MapDesk.LONG, 3, 3, -1);
            put(x, LOAD, 0, THROW, 0, POP, 0, POP, 0);
            x.handler(1, 2, 2, 0);
            dueRun("caught, then STUCK", x, 9, MapDesk.STUCK, 4, 3, -1);
            put(x, LOAD, 0, THROW, 0, NONE, 0, GIVE, 0);
            x.handler(1, 2, 2, 0);
            dueRun("caught, then NOTHING given", x, 9, MapDesk.GIVEN, 4, 3, -1);
            put(x, LOAD, 0, THROW, 0, NONE, 0, THROW, 0);
            x.handler(1, 2, 2, 0);
            dueRun("caught, then THROWN", x, 9, MapDesk.THROWN, 4, 3, 2);
            put(x, LOAD, 0, RETURN, 0);
            dueRun("RETURNED", x, 9, MapDesk.RETURNED, 2, 1, -1);
        });
        allSaid(promise);
    }

    public static void main(String[] args) {
        newObject();
        kin();
        enter();
        add();
        handler();
        clear();
        lay();
        wrong();
        places();
        types();
        maps();
        checkFrames();
        checkInstructions();
        reason();
        run();
        ended();
        held();
        orderAndLimits();
        endOfTests();
    }
}
