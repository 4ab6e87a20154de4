import java.util.Arrays;

/** The terms of the document, sentence by sentence. */
public final class TermSentencesTest extends Probes {
    private static void terms(String words, Runnable body) {
        test("Terms", words, body);
    }

    /** The subroutine from instruction 3 on, called twice; it loops, so that a map of it has an INT in local 1. */
    private static MapDesk calledTwice() {
        MapDesk x = new MapDesk();
        x.enter(1, INT);
        put(x, JSR, 3, JSR, 3, RETURN, 0, STORE, 0, LOAD, 1, IF, 4, RET, 0);
        due("a subroutine is laid out", x.lay(), MapDesk.OK);
        return x;
    }

    private static void desks() {
        test("What it is", "A desk that makes methods ready for a small device: subroutines are laid out once more for each way "
            + "in which they are called", () -> {
            MapDesk x = calledTwice();
            due("places", x.places(), 3 + 4 + 4);
            for (int k = 0; k < 3; k++) {
                duePlace("outside", x, k, k, 0, 0, -1, -1, -1);
            }
            for (int k = 3; k < 11; k++) {
                int at = 3 + (k - 3) % 4;
                duePlace("in the subroutine", x, k, at, at == 3 || at == 5 ? 1 : 0, 1, k < 7 ? 0 : 1, -1, -1);
            }
        });
        test("What it is", "the types of all places are found", () -> {
            MapDesk x = calledTwice();
            // A call leaves its LINK in local 0, so the second one finds that of the first there.
            int first = LINK, second = LINK + 1;
            int[] links = {TOP, first, second, TOP, first, first, first, first, second, second, second};
            for (int k = 0; k < 11; k++) {
                due("local 0 of place " + k, x.type(k, 0), links[k]);
                due("local 1 of place " + k, x.type(k, 1), INT);
                due("local 2 of place " + k, x.type(k, 2), TOP);
            }
            due("the STACK of place 3", x.type(3, 4), LINK);
            due("the STACK of place 7", x.type(7, 4), LINK + 1);
            due("there are no more", x.type(11, 0), -1);
        });
        test("What it is", "maps of types are kept where jumps lead to", () -> {
            MapDesk x = calledTwice();
            for (int k = 0; k < 11; k++) {
                boolean jumpedTo = k == 1 || k == 2 || k == 3 || k == 4 || k == 7 || k == 8;
                due("place " + k + " has a map", x.place(k, 6), jumpedTo ? 1 : 0);
                for (int slot = 0; slot < 10; slot++) {
                    due("map(" + k + ", " + slot + ")", x.map(k, slot), jumpedTo ? x.type(k, slot) : -1);
                }
            }
        });
        test("What it is", "and one pass over all places checks such maps, whatever they say.", () -> {
            for (int k : new int[] {1, 2, 3, 4, 7, 8}) {
                for (int slot = 0; slot < 4 + calledTwice().place(k, 1); slot++) {
                    MapDesk x = calledTwice();
                    int is = x.map(k, slot);
                    // Local 0 of place 1 is needed as the MAP of place 7 has it; RETURN, at place 2, needs nothing.
                    boolean needed = slot == 4 || slot == 1 && k != 2 || slot == 0 && (k == 1 || k == 4 || k == 8);
                    for (int type = 0; type <= 90; type++) {
                        x.alter(k, slot, type);
                        boolean fine = type == is || type == TOP && !needed;
                        due("map(" + k + ", " + slot + ") is " + type, x.check() == -1, fine);
                        due("it says still what it said", x.map(k, slot), type);
                    }
                }
            }
        });
    }

    private static void calls() {
        test("What it is", "An object is used for at most 512 calls after it has been made", () -> {
            MapDesk x = new MapDesk();
            x.add(MAKE, 1);
            x.add(STORE, 0);
            x.add(MAKE, 2);
            x.add(STORE, 1);
            x.add(GO, 0);
            for (int call = 6; call < 511; call += 2) {
                due("call " + call, x.run(200), MapDesk.LONG);
                due("the call behind " + call, x.held(0, false), 12);
            }
            due("call 512", x.held(1, false), 13);
            MapDesk y = forty();
            for (int call = 17; call < 512; call++) {
                due("call " + call, y.lay(), MapDesk.OK);
            }
            due("call 512", y.check(), -1);
        });
        test("What it is", "what later calls answer is free.", () -> {
            MapDesk x = forty();
            for (int call = 17; call < 2000; call++) {
                x.lay();
                x.check();
                x.run(200);
                x.clear();
                x.add(RETURN, 0);
            }
            due("but none fails", true, true);
        });
    }

    private static void classes() {
        terms("CLASSES 0..7: a class above 0 has a PARENT, a lower one, at first 0", () -> {
            for (int c = 0; c < 8; c++) {
                MapDesk x = new MapDesk();
                for (int p = 0; p < 8; p++) {
                    dueUse(x, c, p, p == c || p == 0);
                }
            }
        });
        terms("its ANCESTORS are its PARENT, the PARENT of that, and so on.", () -> {
            for (int c = 0; c < 8; c++) {
                MapDesk x = line();
                for (int p = 0; p < 8; p++) {
                    dueUse(x, c, p, p <= c);
                }
            }
            MapDesk x = kinship(7, 4, 4, 2);
            for (int p = 0; p < 8; p++) {
                dueUse(x, 7, p, p == 7 || p == 4 || p == 2 || p == 0);
            }
        });
        terms("TYPES are 0 TOP, 1 INT, 2 NULL", () -> {
            MapDesk x = desk(CONST, 0, NONE, 0, RETURN, 0);
            x.lay();
            dueTypes("TOP, INT, NULL", x, 2, 0, 0, 0, 0, 1, 2);
        });
        terms("3 + c CLASS c", () -> {
            for (int c = 0; c < 8; c++) {
                MapDesk x = desk(NONE, 0, CAST, c, RETURN, 0);
                x.lay();
                due("CLASS " + c, x.type(2, 4), 3 + c);
            }
        });
        terms("11 + p NEW p (what was made at place p)", () -> {
            MapDesk x = desk(MAKE, 5, RETURN, 0);
            x.lay();
            due("NEW 0", x.type(1, 4), 11);
            x = desk(GO, 3, RETURN, 0, RETURN, 0, MAKE, 5, RETURN, 0);
            x.lay();
            due("instruction 3 is place 1", x.type(2, 4), 12);
            x = many(0, 12, JSR, 15, STORE, 0, STORE, 0, POP, 0, MAKE, 2, RETURN, 0);
            x.lay();
            due("40 places", x.places(), 40);
            due("NEW 38", x.type(39, 4), 49);
        });
        terms("51 + p LINK p (to the JSR at place p).", () -> {
            MapDesk x = desk(JSR, 1, RETURN, 0);
            x.lay();
            due("LINK 0", x.type(1, 4), 51);
            x = desk(GO, 3, RETURN, 0, RETURN, 0, JSR, 4, RETURN, 0);
            x.lay();
            due("instruction 3 is place 1", x.type(2, 4), 52);
            x = many(0, 12, JSR, 15, STORE, 0, STORE, 0, POP, 0, JSR, 17, RETURN, 0);
            x.lay();
            due("40 places", x.places(), 40);
            due("LINK 38", x.type(39, 4), 89);
        });
        terms("REFERENCES are NULL and CLASSes.", () -> {
            for (int op : new int[] {CAST, THROW}) {
                dueNeeds(op, 7, 1, 4, type -> type >= 2 && type <= 10);
            }
            dueNeeds(IFNULL, 4, 1, 4, type -> type >= 2 && type <= 10);
        });
    }

    private static void fitting() {
        terms("A type FITS another one if it is the same", () -> {
            MapDesk x = jumper();
            for (int type = 0; type <= 90; type++) {
                due(type + " FITS itself", fits(x, type, type), true);
            }
            for (int one = 0; one <= 90; one++) {
                x = jumper();
                for (int two = 1; two <= 90; two++) {
                    if (one != two && !isClass(two)) {
                        due(one + " FITS " + two, fits(x, one, two), false);
                    }
                }
            }
        });
        terms("if that is TOP", () -> {
            MapDesk x = jumper();
            for (int type = 0; type <= 90; type++) {
                due(type + " FITS TOP", fits(x, type, TOP), true);
            }
        });
        terms("if it is NULL and that a CLASS", () -> {
            for (int c = 0; c < 8; c++) {
                MapDesk x = jumper();
                for (int one = 0; one <= 90; one++) {
                    if (!isClass(one)) {
                        due(one + " FITS CLASS " + c, fits(x, one, CLASS + c), one == NULL);
                    }
                }
            }
        });
        terms("or CLASS c and that an ancestor of c.", () -> {
            MapDesk x = kinship(2, 1, 5, 2, 6, 3, 7, 5);
            put(x, GO, 2, GO, 3, GO, 1, RETURN, 0);
            x.lay();
            int[][] ancestors = {{}, {0}, {1, 0}, {0}, {0}, {2, 1, 0}, {3, 0}, {5, 2, 1, 0}};
            for (int c = 0; c < 8; c++) {
                for (int d = 0; d < 8; d++) {
                    boolean above = c == d;
                    for (int one : ancestors[c]) {
                        above |= one == d;
                    }
                    due("CLASS " + c + " FITS CLASS " + d, fits(x, CLASS + c, CLASS + d), above);
                }
            }
        });
    }

    private static void joining() {
        terms("The JOIN of two: that one of them which the other FITS", () -> {
            MapDesk x = kinship(2, 1, 5, 2);
            dueJoin(x, INT, INT, INT);
            dueJoin(x, NULL, NULL, NULL);
            dueJoin(x, CLASS, CLASS, CLASS);
            dueJoin(x, CLASS + 7, CLASS + 7, CLASS + 7);
            dueJoin(x, NULL, CLASS, CLASS);
            dueJoin(x, NULL, CLASS + 7, CLASS + 7);
            dueJoin(x, CLASS + 2, CLASS + 1, CLASS + 1);
            dueJoin(x, CLASS + 5, CLASS + 1, CLASS + 1);
            dueJoin(x, CLASS + 5, CLASS, CLASS);
            dueJoin(x, CLASS + 7, CLASS, CLASS);
            x = desk(MAKE, 1, CONST, 0, IF, 3, RETURN, 0);
            x.lay();
            due("JOIN of a NEW and itself", x.type(3, 4), NEW);
            x = desk(JSR, 1, CONST, 0, IF, 3, RETURN, 0);
            x.lay();
            due("JOIN of a LINK and itself", x.type(3, 4), LINK);
            for (int type = 1; type < 11; type++) {
                x = desk(CONST, 0, IF, 4, LOAD, 1, STORE, 0, RETURN, 0);
                x.enter(1, type);
                x.lay();
                due("JOIN of " + type + " and TOP", x.type(4, 0), TOP);
                x = desk(LOAD, 1, STORE, 0, GO, 0);
                x.enter(1, type);
                x.lay();
                due("JOIN of TOP and " + type, x.type(0, 0), TOP);
            }
        });
        terms("of other CLASSes the greatest number of a class that is an ancestor of both", () -> {
            MapDesk x = kinship(2, 1, 3, 1, 4, 2, 5, 4, 6, 3);
            dueJoin(x, CLASS + 2, CLASS + 3, CLASS + 1);
            dueJoin(x, CLASS + 5, CLASS + 6, CLASS + 1);
            dueJoin(x, CLASS + 4, CLASS + 3, CLASS + 1);
            dueJoin(x, CLASS + 7, CLASS + 6, CLASS);
            dueJoin(x, CLASS + 7, CLASS + 1, CLASS);
            x = line();
            x.kin(6, 4);
            x.kin(7, 5);
            dueJoin(x, CLASS + 7, CLASS + 6, CLASS + 4);
            dueJoin(x, CLASS + 5, CLASS + 6, CLASS + 4);
            x = kinship(6, 5, 7, 5);
            dueJoin(x, CLASS + 7, CLASS + 6, CLASS + 5);
            dueJoin(x, CLASS + 1, CLASS + 2, CLASS);
        });
        terms("else TOP.", () -> {
            MapDesk x = new MapDesk();
            dueJoin(x, INT, NULL, TOP);
            dueJoin(x, INT, CLASS, TOP);
            dueJoin(x, INT, CLASS + 7, TOP);
            int[] pushes = {CONST, NONE, LOAD, MAKE};
            for (int one : pushes) {
                x = desk(CONST, 0, IF, 4, one, 3, GO, 5, MAKE, 3, RETURN, 0);
                x.enter(3, CLASS + 3);
                x.lay();
                due("JOIN of what " + one + " puts and a NEW", x.type(5, 4), TOP);
                x = desk(CONST, 0, IF, 5, one, 3, STORE, 0, GO, 6, JSR, 7, RETURN, 0, STORE, 0, RET, 0);
                x.enter(3, CLASS + 3);
                x.lay();
                due("JOIN of what " + one + " puts and a LINK", x.type(6, 0), TOP);
            }
            x = desk(CONST, 0, IF, 4, JSR, 6, GO, 5, JSR, 6, RETURN, 0, STORE, 0, RET, 0);
            x.lay();
            due("a LINK", x.type(3, 0), LINK + 2);
            due("JOIN of two LINKs", x.type(5, 0), TOP);
        });
    }

    private static void frames() {
        terms("A FRAME has 4 LOCALS (0..3)", () -> {
            MapDesk x = desk(CONST, 0, STORE, 0, CONST, 0, STORE, 3, LOAD, 3, LOAD, 0, RETURN, 0);
            x.lay();
            dueTypes("4 LOCALS", x, 6, INT, TOP, TOP, INT, INT, INT);
            for (int op : new int[] {LOAD, STORE, RET}) {
                due("no local -1", x.add(op, -1), MapDesk.BAD);
                due("no local 4", x.add(op, 4), MapDesk.BAD);
            }
        });
        terms("and a STACK of at most 6 types.", () -> {
            MapDesk x = desk(CONST, 0, NONE, 0, CONST, 0, NONE, 0, CONST, 0, NONE, 0, RETURN, 0);
            due("6 values", x.lay(), MapDesk.OK);
            dueTypes("6 values", x, 6, TOP, TOP, TOP, TOP, INT, NULL, INT, NULL, INT, NULL);
            dueRun("6 values", x, 9, MapDesk.RETURNED, 7, 6, -1);
            put(x, CONST, 0, NONE, 0, CONST, 0, NONE, 0, CONST, 0, NONE, 0, CONST, 0, RETURN, 0);
            dueWrong("7 values", x, 3, 6, 0);
            dueRun("7 values", x, 9, MapDesk.STUCK, 7, 6, -1);
        });
        terms("A METHOD has up to 24 INSTRUCTIONS (op, a), numbered from 0", () -> {
            MapDesk x = new MapDesk();
            for (int i = 1; i <= 24; i++) {
                due("instruction " + i, x.add(i == 24 ? RETURN : GO, i == 24 ? 0 : i), i);
            }
            due("a 25th", x.add(RETURN, 0), MapDesk.FULL);
            due("24 places", x.lay() + x.places(), 24);
            due("the first is 0", x.place(0, 0), 0);
            due("the last is 23", x.place(23, 0), 23);
            dueRun("24 instructions", x, 24, MapDesk.RETURNED, 24, 23, -1);
        });
        terms("types with which the LOCALS begin (at first TOP)", () -> {
            MapDesk x = desk(RETURN, 0);
            x.lay();
            dueTypes("at first", x, 0, TOP, TOP, TOP, TOP);
            x.enter(0, CLASS + 7);
            x.enter(3, INT);
            x.lay();
            dueTypes("then", x, 0, CLASS + 7, TOP, TOP, INT);
        });
        terms("and up to 4 HANDLERS (from, to, target, c)", () -> {
            MapDesk x = desk(RETURN, 0, RETURN, 0, RETURN, 0, RETURN, 0, RETURN, 0);
            for (int i = 1; i <= 4; i++) {
                due("handler " + i, x.handler(0, 1, i, i), i);
            }
            due("a fifth", x.handler(0, 1, 1, 1), MapDesk.FULL);
            x.lay();
            for (int i = 1; i <= 4; i++) {
                due("the target of handler " + i, x.type(i, 4), CLASS + i);
            }
            due("no others", x.places(), 5);
        });
        terms(": they cover the instructions from .. to - 1.", () -> {
            for (int from = 0; from < 4; from++) {
                for (int to = from + 1; to <= 4; to++) {
                    for (int at = 0; at < 4; at++) {
                        dueCovered(from, to, at);
                    }
                    for (int at = 1; at < 4; at++) {
                        dueCaught(from, to, at);
                    }
                }
            }
        });
    }

    /** Of four instructions one throws; 4 is the target. */
    private static void dueCaught(int from, int to, int at) {
        boolean covered = from <= at && at < to;
        MapDesk x = new MapDesk();
        for (int i = 0; i < 4; i++) {
            x.add(i == at ? THROW : NONE, 0);
        }
        x.add(RETURN, 0);
        x.handler(from, to, 4, 0);
        dueRun("HANDLER " + from + " .. " + to + ", THROW at " + at, x, 9, covered ? MapDesk.RETURNED : MapDesk.THROWN,
            covered ? at + 2 : at + 1, covered ? 4 : at, covered ? -1 : 2);
    }

    /** Of four instructions the first and one more, if it is another one, are places; 4 is the target. */
    private static void dueCovered(int from, int to, int at) {
        boolean first = from == 0;
        boolean covered = first || from <= at && at < to;
        MapDesk x = new MapDesk();
        for (int i = 0; i < 4; i++) {
            x.add(GO, i == 0 ? at : i);
        }
        x.add(RETURN, 0);
        x.handler(from, to, 4, 6);
        String what = "HANDLER " + from + " .. " + to + ", a place at " + at;
        due(what + ": lay", x.lay(), MapDesk.OK);
        int target = at == 0 ? 1 : 2;
        due(what + ": places", x.places(), covered ? target + 1 : target);
        due(what + ": alter", x.alter(target, 4, INT), covered);
        dueCheck(what, x, first ? 0 : covered ? 1 : -1, covered ? MapDesk.CAUGHT : 0);
    }

    private static void needsOfInstructions() {
        terms("What an instruction takes off the STACK (the top last), and then puts there:", () -> {
            for (int op = 0; op < 20; op++) {
                for (int values = TAKES[op]; op != RET && values - TAKES[op] + PUTS[op] <= 6 && values <= 6; values++) {
                    MapDesk x = filled(op, values);
                    due("lay of " + op + " with " + values, x.lay(), MapDesk.OK);
                    due("values behind " + op + " with " + values, x.place(values + 1, 1), ends(op) ? -1 : values - TAKES[op] + PUTS[op]);
                }
            }
            due("the top is the last", needsMet(IF, 4, TOP, TOP, TOP, TOP, NULL, INT), true);
            due("the top is the last", needsMet(IF, 4, TOP, TOP, TOP, TOP, INT, NULL), false);
            due("what is below stays", made(CAST, 2, 4, TOP, TOP, TOP, TOP, LINK, INT, NULL), LINK);
            due("what is below stays", made(CAST, 2, 5, TOP, TOP, TOP, TOP, LINK, INT, NULL), INT);
        });
        terms("0 CONST: INT (in a RUN the int a, any one)", () -> {
            due("CONST puts", made(CONST, 9, 4, TOP, TOP, TOP, TOP), INT);
            for (int a : new int[] {LEAST, -1, 0, 1, 24, GREATEST}) {
                MapDesk x = desk(CONST, a, STORE, 2, RETURN, 0);
                due("CONST " + a, x.lay(), MapDesk.OK);
                x.run(9);
                due("CONST " + a, x.held(2, true), a);
            }
        });
        terms("1 NONE: NULL", () -> {
            due("NONE puts", made(NONE, 0, 4, TOP, TOP, TOP, TOP), NULL);
            MapDesk x = desk(NONE, 9, STORE, 2, RETURN, 0);
            x.run(9);
            due("NONE puts NOTHING", x.held(2, false), 2);
        });
        terms("2 LOAD: the type of local a, which is neither TOP nor a LINK", () -> {
            for (int a = 0; a < 4; a++) {
                dueNeeds(LOAD, a, 0, a, type -> type != TOP && type < LINK);
                int[] types = {INT, CLASS + 2, NULL, NEW + 39};
                due("LOAD " + a, made(LOAD, a, 4, types), types[a]);
                due("LOAD leaves local " + a, made(LOAD, a, a, types), types[a]);
            }
        });
        terms("3 STORE takes any, local a has it then", () -> {
            for (int a = 0; a < 4; a++) {
                dueNeeds(STORE, a, 1, 4, type -> true);
                for (int type : SOME_TYPES) {
                    due("STORE " + a, made(STORE, a, a, INT, INT, INT, INT, type), type);
                    due("STORE " + a + " leaves others", made(STORE, a, (a + 1) % 4, INT, INT, INT, INT, type), INT);
                }
            }
        });
        terms("4 POP takes any", () -> {
            dueNeeds(POP, 0, 1, 4, type -> true);
            due("POP leaves", made(POP, 0, 4, TOP, TOP, TOP, TOP, NULL, INT), NULL);
        });
        terms("5 DUP takes any, puts it twice", () -> {
            dueNeeds(DUP, 0, 1, 4, type -> true);
            for (int type : SOME_TYPES) {
                due("DUP", made(DUP, 0, 4, TOP, TOP, TOP, TOP, type), type);
                due("DUP", made(DUP, 0, 5, TOP, TOP, TOP, TOP, type), type);
            }
        });
        terms("6 SWAP takes any two, puts the top first", () -> {
            dueNeeds(SWAP, 0, 2, 4, type -> true);
            dueNeeds(SWAP, 0, 2, 5, type -> true);
            for (int type : SOME_TYPES) {
                due("SWAP", made(SWAP, 0, 5, TOP, TOP, TOP, TOP, type, CLASS + 3), type);
                due("SWAP", made(SWAP, 0, 4, TOP, TOP, TOP, TOP, CLASS + 3, type), type);
            }
            due("SWAP leaves what is below", made(SWAP, 0, 4, TOP, TOP, TOP, TOP, NULL, INT, LINK), NULL);
            MapDesk x = desk(NONE, 0, CONST, 7, MAKE, 4, SWAP, 0, STORE, 0, STORE, 1, STORE, 2, RETURN, 0);
            x.run(9);
            dueHeld("SWAP in a RUN", x, 1, 15, 2, 0);
            due("the int", x.held(0, true), 7);
        });
        terms("7 ADD takes INT, INT: INT", () -> {
            dueNeeds(ADD, 0, 2, 4, type -> type == INT);
            dueNeeds(ADD, 0, 2, 5, type -> type == INT);
            due("ADD", made(ADD, 0, 4, TOP, TOP, TOP, TOP, INT, INT), INT);
            due("ADD leaves what is below", made(ADD, 0, 4, TOP, TOP, TOP, TOP, NULL, INT, INT), NULL);
        });
    }

    private static void needsOfObjects() {
        terms("8 MAKE: LOCALs that are NEW of this place become TOP", () -> {
            for (int local = 0; local < 4; local++) {
                int[] types = {NEW, NEW + 2, NEW + 39, INT};
                due("NEW of another place stays", made(MAKE, 2, local, types), types[local]);
                types[local] = NEW + 1;
                due("NEW of this place in local " + local, made(MAKE, 2, local, types), TOP);
            }
            due("more than one", made(MAKE, 2, 0, NEW + 1, NEW + 1, NEW + 1, NEW + 1), TOP);
            due("more than one", made(MAKE, 2, 3, NEW + 1, NEW + 1, NEW + 1, NEW + 1), TOP);
        });
        terms("none in the STACK may be that", () -> {
            for (int values = 1; values < 6; values++) {
                for (int slot = 4; slot < 4 + values; slot++) {
                    dueNeeds(MAKE, 2, values, slot, type -> type != NEW + 1);
                }
            }
            for (int local = 0; local < 4; local++) {
                dueNeeds(MAKE, 2, 0, local, type -> true);
            }
            MapDesk x = desk(GO, 4, POP, 0, MAKE, 1, RETURN, 0, CONST, 0, GO, 1);
            x.lay();
            x.alter(1, 4, NEW + 2);
            dueCheck("one that was taken off is not there", x, 5, MapDesk.JUMP);
        });
        terms(": NEW of this place", () -> {
            due("MAKE puts", made(MAKE, 7, 4, TOP, TOP, TOP, TOP), NEW + 1);
            due("MAKE puts it on top", made(MAKE, 7, 5, TOP, TOP, TOP, TOP, NEW + 2), NEW + 1);
            due("MAKE leaves what is below", made(MAKE, 7, 4, TOP, TOP, TOP, TOP, NEW + 2), NEW + 2);
        });
        terms("9 INIT takes a NEW", () -> {
            due("INIT of a NEW", desk(MAKE, 6, INIT, 0, RETURN, 0).lay(), MapDesk.OK);
            dueNeeds(INIT, 0, 1, 4, type -> false);
            MapDesk x = desk(GO, 3, INIT, 0, RETURN, 0, MAKE, 6, GO, 1);
            x.lay();
            for (int type = 0; type <= 90; type++) {
                x.alter(1, 4, type);
                due("INIT of " + type, needsMet(x), type == NEW + 3);
            }
        });
        terms("all in the FRAME that are the same become the CLASS a of that MAKE", () -> {
            for (int slot = 0; slot < 8; slot++) {
                MapDesk x = desk(GO, 4, INIT, 3, GO, 3, RETURN, 0, MAKE, 6, DUP, 0, MAKE, 5, DUP, 0, MAKE, 4, GO, 1);
                x.lay();
                int[] types = {NEW + 4, NEW + 6, NEW + 4, INT, NEW + 4, NEW + 6, NEW + 4, CLASS, NEW + 4};
                for (int i = 0; i < 9; i++) {
                    x.alter(1, i, types[i]);
                }
                due("INIT, slot " + slot, madeAt(x, 2, 3, slot), types[slot] == NEW + 4 ? CLASS + 6 : types[slot]);
            }
        });
        terms("10 CAST takes a REFERENCE: CLASS a", () -> {
            for (int c = 0; c < 8; c++) {
                due("CAST " + c + " of NULL", made(CAST, c, 4, TOP, TOP, TOP, TOP, NULL), CLASS + c);
                due("CAST " + c + " of CLASS 0", made(CAST, c, 4, TOP, TOP, TOP, TOP, CLASS), CLASS + c);
                due("CAST " + c + " of CLASS 7", made(CAST, c, 4, TOP, TOP, TOP, TOP, CLASS + 7), CLASS + c);
                dueNeeds(CAST, c, 1, 4, type -> type == NULL || isClass(type));
            }
        });
        terms("11 USE takes what FITS CLASS a", () -> {
            for (int c = 0; c < 8; c++) {
                int a = c;
                dueNeeds(USE, a, 1, 4, type -> type == NULL || type == CLASS + a || a == 0 && isClass(type));
            }
        });
    }

    private static void waysOfInstructions() {
        terms("12 GO: on at a", () -> {
            MapDesk x = desk(GO, 2, RETURN, 0, GO, 1);
            x.lay();
            due("GO leads to a alone", x.places(), 3);
            dueRun("GO", x, 9, MapDesk.RETURNED, 3, 1, -1);
            x = desk(GO, 0, RETURN, 0);
            due("GO to itself", x.lay() + x.places(), 1);
            dueRun("GO to itself", x, 7, MapDesk.LONG, 7, 0, -1);
        });
        terms("13 IF takes INT: on at a, or behind", () -> {
            dueNeeds(IF, 4, 1, 4, type -> type == INT);
            MapDesk x = desk(CONST, 0, IF, 4, RETURN, 0, RETURN, 0, RETURN, 0);
            x.lay();
            due("IF leads to both", x.places(), 4);
            due("behind", x.place(2, 0), 2);
            due("at a", x.place(3, 0), 4);
        });
        terms("14 IFNULL takes a REFERENCE: likewise", () -> {
            dueNeeds(IFNULL, 4, 1, 4, type -> type == NULL || isClass(type));
            MapDesk x = desk(NONE, 0, IFNULL, 4, RETURN, 0, RETURN, 0, RETURN, 0);
            x.lay();
            due("IFNULL leads to both", x.places(), 4);
            due("behind", x.place(2, 0), 2);
            due("at a", x.place(3, 0), 4);
        });
        terms("15 JSR: LINK of this place, on at a", () -> {
            MapDesk x = desk(CONST, 0, JSR, 3, RETURN, 0, RETURN, 0);
            x.lay();
            due("JSR leads to a alone", x.places(), 3);
            duePlace("JSR", x, 2, 3, 2, 1, 1, -1, -1, 1);
            dueTypes("JSR", x, 2, TOP, TOP, TOP, TOP, INT, LINK + 1);
            dueRun("JSR", x, 9, MapDesk.RETURNED, 3, 3, -1);
        });
        terms("16 RET: local a is the LINK of the last JSR of its CALLS: on behind that JSR", () -> {
            MapDesk x = desk(GO, 2, RETURN, 0, JSR, 5, GO, 1, RETURN, 0, GO, 8, RET, 2, RETURN, 0, STORE, 2, GO, 6);
            x.lay();
            duePlace("RET", x, 5, 6, 0, 1, 2, -1, -1, 1);
            duePlace("behind the JSR", x, 3, 3, 0, 0, -1, -1, -1, 1);
            for (int type = 0; type <= 90; type++) {
                x.alter(5, 2, type);
                boolean met = type == LINK + 2;
                due("RET of " + type, x.check() == 5 && x.reason() == MapDesk.NEEDS, !met);
            }
            x = desk(JSR, 3, JSR, 3, RETURN, 0, STORE, 0, JSR, 6, RET, 0, GO, 8, RET, 1, STORE, 1, GO, 7);
            due("one JSR with two CALLS", x.lay(), MapDesk.OK);
            duePlace("one JSR", x, 4, 4, 0, 1, 0, -1, -1);
            duePlace("one JSR", x, 7, 4, 0, 1, 1, -1, -1);
            duePlace("RET", x, 14, 7, 0, 2, 1, 4, -1);
            due("its LINK", x.map(14, 1), LINK + 7);
            x.alter(14, 1, LINK + 4);
            dueCheck("the LINK of that JSR with other CALLS is another one", x, 14, MapDesk.NEEDS);
            int[] last = {JSR, 2, RETURN, 0, STORE, 0, JSR, 5, RET, 0, STORE, 1, RET, 1};
            due("the last JSR", lay(last), MapDesk.OK);
            last[13] = 0;
            due("not the one before", lay(last), MapDesk.TYPE);
        });
        terms("17 RETURN: ends", () -> {
            MapDesk x = desk(RETURN, 0, RETURN, 0);
            due("RETURN leads nowhere", x.lay() + x.places(), 1);
            dueRun("RETURN", x, 1, MapDesk.RETURNED, 1, 0, -1);
        });
        terms("18 GIVE takes what FITS CLASS a: ends", () -> {
            for (int c = 0; c < 8; c++) {
                int a = c;
                dueNeeds(GIVE, a, 1, 4, type -> type == NULL || type == CLASS + a || a == 0 && isClass(type));
            }
            MapDesk x = desk(NONE, 0, GIVE, 0, RETURN, 0);
            due("GIVE leads nowhere", x.lay() + x.places(), 2);
            dueRun("GIVE", x, 9, MapDesk.GIVEN, 2, 1, -1);
        });
        terms("19 THROW takes a REFERENCE: ends.", () -> {
            dueNeeds(THROW, 0, 1, 4, type -> type == NULL || isClass(type));
            MapDesk x = desk(NONE, 0, THROW, 0, RETURN, 0);
            due("THROW leads nowhere", x.lay() + x.places(), 2);
            dueRun("THROW", x, 9, MapDesk.THROWN, 2, 1, 2);
        });
        terms("(All others go on behind.)", () -> {
            for (int op = CONST; op < GO; op++) {
                MapDesk x = filled(op, TAKES[op]);
                due(op + " goes on behind: lay", x.lay(), MapDesk.OK);
                due(op + " goes on behind", x.places(), TAKES[op] + 2);
                dueRun(op + " goes on behind", x, 9, MapDesk.RETURNED, TAKES[op] + 2, TAKES[op] + 1, -1);
            }
        });
    }

    private static void waysOfPlaces() {
        terms("PLACES are an instruction with CALLS, a row of JSRs (by their numbers, the first one first).", () -> {
            MapDesk x = desk(GO, 3, RETURN, 0, RETURN, 0, JSR, 5, RETURN, 0, JSR, 6, JSR, 4);
            due("lay", x.lay(), MapDesk.OK);
            due("one instruction with other CALLS is another place", x.places(), 5);
            duePlace("the row", x, 4, 4, 3, 3, 3, 5, 6, 1);
        });
        terms("The first place is instruction 0 without CALLS, with an empty STACK.", () -> {
            MapDesk x = desk(RETURN, 0);
            x.lay();
            duePlace("the first", x, 0, 0, 0, 0, -1, -1, -1, 0);
            dueWrong("nothing is in the STACK", desk(POP, 0, RETURN, 0), 2, 0, 0);
            dueWrong("other values may come there", desk(CONST, 0, GO, 0), 3, 0, 0);
            due("none are as many", lay(GO, 0), MapDesk.OK);
        });
        terms("A place leads to the instructions at which it goes on, with the same CALLS", () -> {
            MapDesk x = desk(JSR, 2, RETURN, 0, GO, 4, RETURN, 0, NONE, 0, IFNULL, 3, RETURN, 0);
            x.lay();
            due("places", x.places(), 6);
            for (int k = 1; k < 6; k++) {
                due("CALLS of place " + k, x.place(k, 2), 1);
                due("the CALL of place " + k, x.place(k, 3), 0);
            }
        });
        terms("but JSR to a with one CALL more, itself", () -> {
            MapDesk x = desk(GO, 1, JSR, 2, JSR, 3, JSR, 4, RETURN, 0);
            x.lay();
            duePlace("one", x, 2, 2, 1, 1, 1, -1, -1);
            duePlace("two", x, 3, 3, 2, 2, 1, 2, -1);
            duePlace("three", x, 4, 4, 3, 3, 1, 2, 3);
        });
        terms("and RET behind the last JSR of its CALLS, with one CALL less", () -> {
            MapDesk x = desk(JSR, 2, RETURN, 0, STORE, 0, JSR, 5, RET, 0, STORE, 1, RET, 1);
            due("lay", x.lay(), MapDesk.OK);
            due("places", x.places(), 7);
            duePlace("the RET of two", x, 6, 6, 0, 2, 0, 3, -1);
            duePlace("behind that JSR", x, 4, 4, 0, 1, 0, -1, -1, 1);
            duePlace("behind the first JSR", x, 1, 1, 0, 0, -1, -1, -1, 1);
        });
        terms("and to the target of each HANDLER that covers it, with the same CALLS, and just one value in the STACK.", () -> {
            MapDesk x = desk(CONST, 0, CONST, 0, JSR, 3, RETURN, 0, RETURN, 0, RETURN, 0);
            x.handler(3, 4, 4, 1);
            x.handler(0, 1, 4, 1);
            x.handler(3, 4, 5, 2);
            due("lay", x.lay(), MapDesk.OK);
            due("places", x.places(), 7);
            duePlace("from an empty STACK", x, 3, 4, 1, 0, -1, -1, -1, 1);
            duePlace("from three values, with the CALLS", x, 5, 4, 1, 1, 2, -1, -1, 1);
            duePlace("of each HANDLER", x, 6, 5, 1, 1, 2, -1, -1, 1);
            x = desk(RETURN, 0, RETURN, 0);
            x.handler(0, 2, 1, 1);
            due("a target may cover itself", x.lay(), MapDesk.OK);
            due("and is one place", x.places(), 2);
        });
    }

    private static void shape() {
        terms("SHAPE: as places are come to, with so many values in the STACK, they may be WRONG", () -> {
            due("a place that is not come to is not WRONG", lay(RETURN, 0, POP, 0), MapDesk.OK);
            dueWrong("it is with these values", desk(CONST, 0, ADD, 0, RETURN, 0), 2, 1, 0);
            due("it is not with those", lay(CONST, 0, CONST, 0, ADD, 0, RETURN, 0), MapDesk.OK);
            dueWrong("it is with one of two", desk(CONST, 0, IF, 3, CONST, 0, POP, 0, RETURN, 0), 2, 3, 0);
        });
        terms("(and, but for 6, lead nowhere then)", () -> {
            dueWrong("1 leads not to its jump", desk(CONST, 0, GO, 4, POP, 0, RETURN, 0, IF, 2), 1, 4, 0);
            dueWrong("2 leads not to its jump", desk(GO, 3, POP, 0, RETURN, 0, IF, 1, RETURN, 0), 2, 3, 0);
            dueWrong("2 leads not behind", many(0, 13, POP, 0, RETURN, 0), 2, 13, 0);
            dueWrong("3 leads not behind", many(0, 11, CONST, 0, CONST, 0, CONST, 0, CONST, 0, CONST, 0, CONST, 0, CONST, 0,
                RETURN, 0), 3, 17, 0);
            dueWrong("4 leads not to its jump", many(2, 12, JSR, 14, RETURN, 0), 4, 14, 1, 14);
            MapDesk x = desk(GO, 2, ADD, 0, CONST, 0);
            x.handler(2, 3, 1, 0);
            dueWrong("1 leads to no HANDLER", x, 1, 2, 0);
            x = desk(GO, 2, ADD, 0, POP, 0, RETURN, 0);
            x.handler(2, 3, 1, 0);
            dueWrong("2 leads to no HANDLER", x, 2, 2, 0);
            x = desk(GO, 2, ADD, 0, CONST, 0, CONST, 0, CONST, 0, CONST, 0, CONST, 0, CONST, 0, CONST, 0, RETURN, 0);
            x.handler(8, 9, 1, 0);
            dueWrong("3 leads to no HANDLER", x, 3, 8, 0);
            x = desk(JSR, 0);
            for (int i = 1; i < 24; i++) {
                x.add(i == 23 ? RETURN : GO, i == 23 ? 0 : i + 1);
            }
            x.handler(0, 1, 1, 0);
            dueWrong("4 leads to no HANDLER", x, 4, 0, 1, 0);
            x = desk(GO, 2, ADD, 0, RET, 0);
            x.handler(2, 3, 1, 0);
            dueWrong("5 leads to no HANDLER", x, 5, 2, 0);
            dueWrong("6 leads on", desk(GO, 3, POP, 0, RETURN, 0, CONST, 0, IF, 6, CONST, 0, GO, 1), 2, 1, 0);
        });
        terms("1 it goes on behind the last instruction", () -> {
            for (int op = 0; op < 20; op++) {
                MapDesk x = new MapDesk();
                for (int i = 0; i < TAKES[op]; i++) {
                    x.add(op == ADD || op == IF ? CONST : op == INIT ? MAKE : NONE, 0);
                }
                x.add(op, 0);
                if (op < GO || op == IF || op == IFNULL) {
                    dueWrong("the last is " + op, x, 1, TAKES[op], 0);
                } else if (op != JSR && op != RET) {
                    due("the last is " + op, x.lay(), MapDesk.OK);
                }
            }
            due("the last is a JSR that is not come back to", lay(GO, 2, RETURN, 0, JSR, 1), MapDesk.OK);
            dueWrong("RET, the last is its JSR", desk(GO, 3, STORE, 0, RET, 0, JSR, 1), 1, 2, 1, 3);
            due("the last is RET, its JSR is not", lay(JSR, 2, RETURN, 0, STORE, 0, RET, 0), MapDesk.OK);
            due("RET, the last but one is its JSR", lay(GO, 3, STORE, 0, RET, 0, JSR, 1, RETURN, 0), MapDesk.OK);
        });
        terms("2 the STACK has fewer values than are taken", () -> {
            for (int op = 0; op < 20; op++) {
                for (int values = 0; values < TAKES[op]; values++) {
                    dueWrong(op + " with " + values, filled(op, values), 2, values, 0);
                }
                due(op + " with just as many", op == RET ? 0 : filled(op, TAKES[op]).lay(), MapDesk.OK);
            }
        });
        terms("3 it has more than 6 then", () -> {
            for (int op = 0; op < 20; op++) {
                for (int values = 5; op != RET && values <= 6; values++) {
                    MapDesk x = filled(op, values);
                    if (values - TAKES[op] + PUTS[op] > 6) {
                        dueWrong(op + " with " + values, x, 3, values, 0);
                    } else {
                        due(op + " with " + values, x.lay(), MapDesk.OK);
                    }
                }
            }
            due("RET with 6", lay(CONST, 0, CONST, 0, CONST, 0, CONST, 0, CONST, 0, JSR, 7, RETURN, 0, STORE, 0, CONST, 0, RET, 0),
                MapDesk.OK);
        });
        terms("4 a JSR that is in its CALLS already, or has 3", () -> {
            dueWrong("it is the one CALL", desk(JSR, 0), 4, 0, 1, 0);
            dueWrong("it is the first of two", desk(JSR, 1, JSR, 0), 4, 0, 2, 0, 1);
            dueWrong("it is the last of two", desk(JSR, 1, JSR, 1), 4, 1, 2, 0, 1);
            dueWrong("three others", desk(JSR, 1, JSR, 2, JSR, 3, JSR, 4, RETURN, 0), 4, 3, 3, 0, 1, 2);
            dueWrong("it is the first of three", desk(JSR, 1, JSR, 2, JSR, 0), 4, 0, 3, 0, 1, 2);
            due("two others", lay(JSR, 1, JSR, 2, JSR, 3, RETURN, 0), MapDesk.OK);
            due("it was, but is no more", lay(JSR, 2, GO, 0, STORE, 0, RET, 0), MapDesk.OK);
        });
        terms("5 a RET without CALLS", () -> {
            dueWrong("at once", desk(RET, 0), 5, 0, 0);
            dueWrong("after a subroutine", desk(JSR, 2, RET, 0, STORE, 0, RET, 0), 5, 1, 0);
            due("with one", lay(JSR, 2, RETURN, 0, STORE, 0, RET, 0), MapDesk.OK);
        });
        terms("6 the place is come to with different numbers of values (each of them leads on).", () -> {
            dueWrong("two ways", desk(CONST, 0, IF, 3, CONST, 0, RETURN, 0), 6, 3, 0);
            MapDesk x = desk(CONST, 0, CONST, 0, RETURN, 0);
            x.handler(0, 1, 2, 0);
            dueWrong("by a HANDLER", x, 6, 2, 0);
            due("the same number", lay(CONST, 0, IF, 2, RETURN, 0), MapDesk.OK);
            x = desk(JSR, 4, CONST, 0, JSR, 4, RETURN, 0, STORE, 0, RET, 0);
            due("one instruction, other CALLS", x.lay(), MapDesk.OK);
            due("one instruction, one value", x.place(4, 1), 1);
            due("one instruction, two values", x.place(6, 1), 2);
            dueWrong("the less leads on", desk(GO, 3, POP, 0, RETURN, 0, CONST, 0, IF, 6, CONST, 0, GO, 1), 2, 1, 0);
            dueWrong("the less leads on, though it comes last", desk(GO, 3, POP, 0, RETURN, 0, CONST, 0, CONST, 0, IF, 7, POP, 0, GO, 1), 2, 1, 0);
            dueWrong("the more leads on", desk(GO, 3, CONST, 0, RETURN, 0, CONST, 0, CONST, 0, CONST, 0, CONST, 0, CONST, 0,
                CONST, 0, IF, 11, CONST, 0, GO, 1), 3, 1, 0);
            dueWrong("both lead on", desk(GO, 2, RETURN, 0, CONST, 0, IF, 5, CONST, 0, GO, 1), 6, 1, 0);
            dueWrong("both lead on", desk(GO, 2, RETURN, 0, CONST, 0, CONST, 0, IF, 6, POP, 0, GO, 1), 6, 1, 0);
            dueWrong("all of them lead on", desk(CONST, 0, GO, 0), 3, 0, 0);
        });
        terms("If there are more than 40 places (WRONG ones, too) that is 7.", () -> {
            due("40", forty().lay(), MapDesk.OK);
            due("40", many(3, 12, RETURN, 0).lay(), MapDesk.OK);
            dueWrong("41", many(1, 13, RETURN, 0), 7);
            dueWrong("many more", many(0, 20, RETURN, 0), 7);
            dueWrong("40, one of them WRONG", many(0, 13, POP, 0, RETURN, 0), 2, 13, 0);
            dueWrong("41, one of them WRONG", many(1, 13, POP, 0, RETURN, 0), 7);
        });
    }

    private static void order() {
        terms("PLACES are ordered by how many CALLS they have", () -> {
            MapDesk x = desk(GO, 4, STORE, 0, JSR, 6, RET, 0, JSR, 1, RETURN, 0, STORE, 1, RET, 1);
            due("lay", x.lay(), MapDesk.OK);
            int[] counts = {0, 0, 0, 1, 1, 1, 2, 2};
            for (int k = 0; k < 8; k++) {
                due("CALLS of place " + k, x.place(k, 2), counts[k]);
            }
        });
        terms("then by the first CALL in which they differ", () -> {
            MapDesk x = desk(CONST, 0, IF, 4, JSR, 6, RETURN, 0, JSR, 6, RETURN, 0, POP, 0, JSR, 8, RETURN, 0);
            due("lay", x.lay(), MapDesk.OK);
            duePlace("4", x, 4, 6, 1, 1, 2, -1, -1);
            duePlace("5", x, 5, 7, 0, 1, 2, -1, -1);
            duePlace("6", x, 6, 6, 1, 1, 4, -1, -1);
            duePlace("7", x, 7, 7, 0, 1, 4, -1, -1);
            duePlace("8", x, 8, 8, 1, 2, 2, 7, -1);
            duePlace("9", x, 9, 8, 1, 2, 4, 7, -1);
            x = desk(JSR, 1, CONST, 0, IF, 4, JSR, 6, JSR, 6, RETURN, 0, JSR, 8, RETURN, 0, RETURN, 0);
            due("lay", x.lay(), MapDesk.OK);
            duePlace("the second CALL", x, 5, 6, 2, 2, 0, 3, -1);
            duePlace("the second CALL", x, 6, 6, 2, 2, 0, 4, -1);
            duePlace("the second of three CALLS", x, 7, 8, 3, 3, 0, 3, 6);
            duePlace("the second of three CALLS", x, 8, 8, 3, 3, 0, 4, 6);
            x = desk(JSR, 1, JSR, 2, CONST, 0, IF, 5, JSR, 7, JSR, 6, RETURN, 0, RETURN, 0);
            due("lay", x.lay(), MapDesk.OK);
            duePlace("the third CALL, before the instruction", x, 6, 7, 3, 3, 0, 1, 4);
            duePlace("the third CALL, before the instruction", x, 7, 6, 3, 3, 0, 1, 5);
        });
        terms("then by their instruction", () -> {
            MapDesk x = desk(GO, 3, RETURN, 0, GO, 1, GO, 2);
            x.lay();
            for (int k = 0; k < 4; k++) {
                due("place " + k, x.place(k, 0), k);
            }
            x = desk(JSR, 4, RETURN, 0, RETURN, 0, GO, 2, GO, 3);
            x.lay();
            due("with CALLS", x.place(1, 0), 2);
            due("with CALLS", x.place(2, 0), 3);
            due("with CALLS", x.place(3, 0), 4);
        });
        terms("if none is WRONG they are numbered so, from 0.", () -> {
            MapDesk x = forty();
            x.lay();
            due("before the first", x.place(-1, 0), -1);
            due("the first", x.place(0, 0), 0);
            due("the last", x.place(39, 0), 15);
            due("behind the last", x.place(40, 0), -1);
            x = desk(POP, 0, RETURN, 0);
            x.lay();
            due("if one is WRONG", x.place(0, 0), -1);
        });
    }

    private static void typesOfPlaces() {
        terms("TYPES OF PLACES: the first place has the types with which the LOCALS begin.", () -> {
            for (int type = 0; type < 11; type++) {
                for (int local = 0; local < 4; local++) {
                    MapDesk x = desk(RETURN, 0);
                    x.enter(local, type);
                    x.lay();
                    due("local " + local + " begins with " + type, x.type(0, local), type);
                }
            }
            MapDesk x = desk(CONST, 0, STORE, 0, GO, 0);
            x.enter(0, CLASS);
            x.lay();
            due("it may be given others", x.type(0, 0), TOP);
        });
        terms("Again and again each place that has a FRAME gives what its instruction makes of it to those to which that leads", () -> {
            MapDesk x = kinship(7, 6, 6, 5, 5, 4);
            for (int local = 0; local < 4; local++) {
                x.enter(local, CLASS + 7 - local);
            }
            put(x, LOAD, 1, STORE, 0, LOAD, 2, STORE, 1, LOAD, 3, STORE, 2, GO, 0);
            due("a type goes round four times", x.lay(), MapDesk.OK);
            dueTypes("a type goes round four times", x, 0, CLASS + 4, CLASS + 4, CLASS + 4, CLASS + 4);
            x = desk(CONST, 0, STORE, 0, CONST, 0, IF, 6, LOAD, 0, STORE, 1, RETURN, 0);
            x.lay();
            dueTypes("to both of IF", x, 4, INT, TOP, TOP, TOP);
            dueTypes("to both of IF", x, 6, INT, TOP, TOP, TOP);
            x = new MapDesk();
            for (int i = 0; i < 24; i++) {
                x.add(i == 0 ? GO : i == 1 ? RETURN : GO, i == 0 ? 23 : i == 1 ? 0 : i - 1);
            }
            x.enter(2, INT);
            due("back through all", x.lay(), MapDesk.OK);
            dueTypes("back through all", x, 1, TOP, TOP, INT, TOP);
        });
        terms("and its LOCALS (as they were before), with CLASS c alone in the STACK, to targets of HANDLERS", () -> {
            MapDesk x = desk(CONST, 0, CONST, 0, STORE, 3, RETURN, 0, RETURN, 0);
            x.enter(3, NULL);
            x.handler(2, 3, 4, 7);
            x.lay();
            dueTypes("before STORE", x, 4, TOP, TOP, TOP, NULL, CLASS + 7);
            put(x, CONST, 0, CONST, 0, STORE, 3, RETURN, 0, RETURN, 0);
            x.handler(2, 4, 4, 7);
            x.lay();
            dueTypes("before STORE, and behind", x, 4, TOP, TOP, TOP, TOP, CLASS + 7);
            put(x, CONST, 0, CONST, 0, STORE, 3, RETURN, 0, RETURN, 0);
            x.handler(3, 4, 4, 0);
            x.lay();
            dueTypes("behind STORE", x, 4, TOP, TOP, TOP, INT, CLASS);
            put(x, MAKE, 2, STORE, 0, LOAD, 0, INIT, 0, RETURN, 0, RETURN, 0);
            x.handler(3, 4, 5, 0);
            x.lay();
            dueTypes("before INIT", x, 5, NEW, TOP, TOP, NULL, CLASS);
            x = desk(GO, 3, RETURN, 0, RETURN, 0, CONST, 0, STORE, 0, GO, 1);
            x.handler(1, 2, 2, 6);
            x.lay();
            dueTypes("its own, not those of the place before it in order", x, 2, INT, TOP, TOP, TOP, CLASS + 6);
        });
        terms("what a place is given is JOINed, type by type, to what it has.", () -> {
            MapDesk x = desk(CONST, 0, NONE, 0, CONST, 0, IF, 7, SWAP, 0, LOAD, 0, STORE, 1, RETURN, 0);
            x.enter(0, CLASS + 1);
            x.enter(1, CLASS + 2);
            x.enter(2, INT);
            x.lay();
            dueTypes("each alone", x, 7, CLASS + 1, CLASS, INT, TOP, TOP, TOP);
            x = desk(RETURN, 0, RETURN, 0);
            x.kin(7, 6);
            x.handler(0, 1, 1, 7);
            x.handler(0, 1, 1, 6);
            x.lay();
            due("CLASSes of two HANDLERS", x.type(1, 4), CLASS + 6);
        });
        terms("If at some place the types are ever not as its instruction needs them, there are none.", () -> {
            MapDesk x = desk(LOAD, 0, POP, 0, NONE, 0, STORE, 0, GO, 0);
            x.enter(0, INT);
            due("not so the second time", x.lay(), MapDesk.TYPE);
            for (int k = 0; k < 5; k++) {
                dueTypes("none at place " + k, x, k);
            }
            x = desk(CONST, 0, IF, 3, RETURN, 0, LOAD, 3, RETURN, 0);
            due("not so at one place", x.lay(), MapDesk.TYPE);
            due("none at another place", x.type(0, 0), -1);
            x = many(0, 12, JSR, 15, STORE, 0, STORE, 0, POP, 0, CONST, 0, THROW, 0);
            due("not so at the last of 40", x.lay(), MapDesk.TYPE);
            due("40", x.places(), 40);
            due("so where it is come to", lay(RETURN, 0, LOAD, 0, RETURN, 0), MapDesk.OK);
        });
    }

    private static void runs() {
        terms("A RUN does a METHOD with values: ints, NOTHING, OBJECTS of a class, which are READY or not, and LINKs to a JSR instruction.", () -> {
            MapDesk x = desk(GO, 3, RETURN, 0, RETURN, 0, JSR, 5, RETURN, 0, STORE, 0, NONE, 0, STORE, 1, MAKE, 0, STORE, 2,
                MAKE, 7, DUP, 0, INIT, 0, STORE, 3, RETURN, 0);
            due("run", x.run(50), MapDesk.RETURNED);
            dueHeld("values; the LINK is to instruction 3, not place 1", x, 54, 2, 11, 10);
            x = desk(CONST, -8, STORE, 1, MAKE, 7, STORE, 2, MAKE, 0, DUP, 0, INIT, 0, STORE, 3, RETURN, 0);
            due("run", x.run(50), MapDesk.RETURNED);
            dueHeld("values", x, 0, 1, 18, 3);
            due("the int", x.held(1, true), -8);
        });
        terms("LOCALS that begin with INT have 0, with NULL NOTHING, with CLASS c a READY OBJECT of class c (each another one), with TOP no value.", () -> {
            MapDesk x = desk(GO, 0);
            for (int type = 0; type < 11; type++) {
                for (int local = 0; local < 4; local++) {
                    x.enter(local, type);
                    x.run(1);
                    due("local " + local + " that begins with " + type, x.held(local, false), type);
                    due("its int", x.held(local, true), 0);
                }
            }
            x = desk(CONST, 5, STORE, 0, CONST, 6, STORE, 1, RETURN, 0);
            x.enter(0, INT);
            x.run(9);
            x.run(1);
            due("INT has 0, whatever a RUN before left", x.held(0, true), 0);
            due("TOP has no value, whatever a RUN before left", x.held(1, false), 0);
            due("and may not be loaded", runWith(LOAD, 0), MapDesk.STUCK);
        });
        terms("It is STUCK where it goes on behind the last instruction", () -> {
            for (int op = 0; op < GO; op++) {
                int[] kinds = new int[TAKES[op]];
                Arrays.fill(kinds, op == CAST || op == USE ? READY : op == INIT ? NOT_READY : AN_INT);
                MapDesk x = new MapDesk();
                x.enter(3, CLASS + 4);
                for (int i = 0; i < kinds.length; i++) {
                    push(x, kinds[i], i);
                }
                x.add(op, op == LOAD ? 3 : 0);
                dueRun("behind " + op, x, 9, MapDesk.STUCK, TAKES[op] + 1, TAKES[op] + 1, -1);
            }
            dueRun("behind IF", desk(CONST, 0, IF, 0), 9, MapDesk.STUCK, 2, 2, -1);
            dueRun("not behind IF", desk(CONST, 1, IF, 0), 9, MapDesk.LONG, 9, 1, -1);
            dueRun("behind IFNULL", desk(MAKE, 0, DUP, 0, INIT, 0, IFNULL, 0), 9, MapDesk.STUCK, 4, 4, -1);
            dueRun("behind the JSR of a RET", desk(GO, 3, STORE, 0, RET, 0, JSR, 1), 9, MapDesk.STUCK, 4, 4, -1);
            MapDesk x = new MapDesk();
            for (int i = 0; i < 24; i++) {
                x.add(i % 2 == 0 ? CONST : POP, 0);
            }
            dueRun("behind 24", x, 200, MapDesk.STUCK, 24, 24, -1);
        });
        terms("or an instruction is begun with fewer values in the STACK than are taken", () -> {
            for (int op = 0; op < 20; op++) {
                for (int values = 0; values < TAKES[op]; values++) {
                    dueRun(op + " with " + values, filled(op, values), 9, MapDesk.STUCK, values + 1, values, -1);
                }
                due(op + " with just as many", op != RET && filled(op, TAKES[op]).run(9) == MapDesk.STUCK, false);
            }
        });
        terms("would leave more than 6", () -> {
            for (int op = 0; op < 20; op++) {
                for (int values = 5; op != RET && values <= 6; values++) {
                    MapDesk x = filled(op, values);
                    if (values - TAKES[op] + PUTS[op] > 6) {
                        dueRun(op + " with " + values, x, 9, MapDesk.STUCK, values + 1, values, -1);
                    } else {
                        due(op + " with " + values, x.run(9) == MapDesk.STUCK, false);
                    }
                }
            }
            due("RET with 6", desk(CONST, 0, CONST, 0, CONST, 0, CONST, 0, CONST, 0, JSR, 7, RETURN, 0, STORE, 0, CONST, 0,
                RET, 0).run(20), MapDesk.RETURNED);
        });
        terms("or does not find what it needs, which is the same but for:", () -> {
            for (int kind = 0; kind < KINDS; kind++) {
                boolean reference = kind == A_NOTHING || kind == READY;
                for (int op : new int[] {STORE, POP, DUP}) {
                    due(op + " of any: " + kind, runWith(op, 0, kind), MapDesk.RETURNED);
                }
                for (int other = 0; other < KINDS; other++) {
                    due("SWAP of any: " + kind + ", " + other, runWith(SWAP, 0, kind, other), MapDesk.RETURNED);
                    due("ADD of " + kind + ", " + other, runWith(ADD, 0, kind, other) == MapDesk.STUCK, kind != AN_INT || other != AN_INT);
                }
                due("IF of " + kind, runWith(IF, 0, kind) == MapDesk.STUCK, kind != AN_INT);
                due("IFNULL of " + kind, runWith(IFNULL, 0, kind) == MapDesk.STUCK, !reference);
                due("CAST of " + kind, runWith(CAST, 0, kind) == MapDesk.STUCK, !reference);
                due("USE of " + kind, runWith(USE, 0, kind) == MapDesk.STUCK, !reference);
                due("GIVE of " + kind, runWith(GIVE, 0, kind) == MapDesk.STUCK, !reference);
                due("THROW of " + kind, runWith(THROW, 0, kind) == MapDesk.STUCK, !reference);
            }
            MapDesk x = desk(POP, 0, RETURN, 0);
            x.handler(0, 1, 1, 0);
            due("no HANDLER helps", x.run(9), MapDesk.STUCK);
        });
    }

    /** How a RUN of LOAD or RET ends where local 0 holds this kind of value. */
    private static int runLocal(int op, int kind) {
        MapDesk x = new MapDesk();
        x.enter(3, CLASS + 4);
        push(x, kind, 0);
        x.add(STORE, 0);
        x.add(op, 0);
        x.add(RETURN, 0);
        return x.run(3);
    }

    private static void needsOfRuns() {
        terms("LOAD needs any value but a LINK.", () -> {
            for (int kind = 0; kind < KINDS; kind++) {
                due("LOAD of kind " + kind, runLocal(LOAD, kind), kind == A_LINK ? MapDesk.STUCK : MapDesk.LONG);
            }
            for (int local = 0; local < 4; local++) {
                dueRun("LOAD of no value", desk(LOAD, local, RETURN, 0), 9, MapDesk.STUCK, 1, 0, -1);
            }
        });
        terms("CLASS c is a READY OBJECT of c or of a class of which c is an ancestor, or NOTHING", () -> {
            MapDesk x = kinship(4, 2, 2, 1);
            x.enter(0, CLASS + 4);
            x.enter(1, NULL);
            for (int c = 0; c < 8; c++) {
                boolean is = c == 4 || c == 2 || c == 1 || c == 0;
                put(x, LOAD, 0, USE, c, RETURN, 0);
                due("USE as " + c, x.run(9), is ? MapDesk.RETURNED : MapDesk.STUCK);
                put(x, LOAD, 0, GIVE, c);
                due("GIVE as " + c, x.run(9), is ? MapDesk.GIVEN : MapDesk.STUCK);
                put(x, LOAD, 1, GIVE, c);
                due("GIVE of NOTHING as " + c, x.run(9), MapDesk.GIVEN);
                put(x, MAKE, c, USE, c, RETURN, 0);
                due("USE of one not READY", x.run(9), MapDesk.STUCK);
                put(x, MAKE, c, GIVE, 0);
                due("GIVE of one not READY", x.run(9), MapDesk.STUCK);
            }
        });
        terms("a REFERENCE any READY OBJECT, or NOTHING.", () -> {
            for (int c = 0; c < 8; c++) {
                MapDesk x = desk(LOAD, 0, IFNULL, 0, RETURN, 0);
                x.enter(0, CLASS + c);
                due("a READY OBJECT", x.run(9), MapDesk.RETURNED);
                due("one that is not", desk(MAKE, c, IFNULL, 0, RETURN, 0).run(9), MapDesk.STUCK);
                due("one that is not", desk(MAKE, c, CAST, c, RETURN, 0).run(9), MapDesk.STUCK);
                due("one that is not", desk(MAKE, c, THROW, c, RETURN, 0).run(9), MapDesk.STUCK);
            }
            due("NOTHING", desk(NONE, 0, CAST, 3, RETURN, 0).run(9), MapDesk.RETURNED);
            due("NOTHING", desk(NONE, 0, IFNULL, 2, RETURN, 0).run(9), MapDesk.RETURNED);
            due("an int", desk(CONST, 0, IFNULL, 2, RETURN, 0).run(9), MapDesk.STUCK);
        });
        terms("MAKE makes an OBJECT of class a that is not READY (and leaves LOCALS and STACK as they are)", () -> {
            for (int c = 0; c < 8; c++) {
                MapDesk x = desk(MAKE, c, STORE, 1, RETURN, 0);
                x.run(9);
                due("MAKE " + c, x.held(1, false), 11 + c);
            }
            MapDesk x = desk(LOAD, 0, STORE, 1, MAKE, 2, STORE, 0, GO, 0);
            x.enter(0, INT);
            due("one of this MAKE in a LOCAL", x.run(9), MapDesk.LONG);
            dueHeld("stays so", x, 13, 13, 0, 0);
            dueRun("some of this MAKE in the STACK", desk(MAKE, 2, GO, 0), 99, MapDesk.STUCK, 13, 0, -1);
        });
        terms("INIT needs one that is not READY, and makes it so.", () -> {
            for (int kind = 0; kind < KINDS; kind++) {
                due("INIT of kind " + kind, runWith(INIT, 0, kind), kind == NOT_READY ? MapDesk.RETURNED : MapDesk.STUCK);
            }
            dueRun("INIT twice", desk(MAKE, 2, DUP, 0, INIT, 0, INIT, 0, RETURN, 0), 9, MapDesk.STUCK, 4, 3, -1);
            MapDesk x = desk(MAKE, 2, DUP, 0, STORE, 0, MAKE, 2, STORE, 1, DUP, 0, STORE, 2, INIT, 0, RETURN, 0);
            x.run(20);
            dueHeld("that one, wherever it is held, and no other", x, 5, 13, 5, 0);
        });
        terms("ADD wraps", () -> {
            int[][] sums = {{GREATEST, 1, LEAST}, {LEAST, -1, GREATEST}, {LEAST, LEAST, 0}, {GREATEST, GREATEST, -2}, {2, 3, 5}};
            for (int[] sum : sums) {
                MapDesk x = desk(CONST, sum[0], CONST, sum[1], ADD, 0, STORE, 0, RETURN, 0);
                x.run(9);
                due(sum[0] + " + " + sum[1], x.held(0, true), sum[2]);
            }
        });
        terms("IF goes on at a if the int is not 0", () -> {
            for (int number : new int[] {LEAST, -1, 0, 1, 256, GREATEST}) {
                dueRun("IF of " + number, desk(CONST, number, IF, 3, RETURN, 0, RETURN, 0), 9, MapDesk.RETURNED, 3, number == 0 ? 2 : 3, -1);
            }
        });
        terms("IFNULL if it is NOTHING.", () -> {
            dueRun("IFNULL of NOTHING", desk(NONE, 0, IFNULL, 3, RETURN, 0, RETURN, 0), 9, MapDesk.RETURNED, 3, 3, -1);
            for (int c = 0; c < 8; c++) {
                MapDesk x = desk(LOAD, 0, IFNULL, 3, RETURN, 0, RETURN, 0);
                x.enter(0, CLASS + c);
                dueRun("IFNULL of an OBJECT of class " + c, x, 9, MapDesk.RETURNED, 3, 2, -1);
            }
        });
        terms("RET needs any LINK.", () -> {
            for (int kind = 0; kind < KINDS; kind++) {
                due("RET of kind " + kind, runLocal(RET, kind), kind == A_LINK ? MapDesk.LONG : MapDesk.STUCK);
            }
            dueRun("RET of no value", desk(RET, 0), 9, MapDesk.STUCK, 1, 0, -1);
            dueRun("not that of the last JSR", desk(JSR, 2, RETURN, 0, STORE, 0, JSR, 4, RET, 0), 9, MapDesk.RETURNED, 5, 1, -1);
            dueRun("twice, though no JSR is open", desk(JSR, 1, STORE, 0, RET, 0), 9, MapDesk.STUCK, 4, 1, -1);
            dueRun("twice, though no JSR is open", desk(JSR, 3, RET, 0, RETURN, 0, STORE, 0, RET, 0), 9, MapDesk.LONG, 9, 1, -1);
        });
    }

    private static void thrown() {
        terms("CAST of an OBJECT that is not as CLASS a throws a new READY OBJECT of class 1", () -> {
            MapDesk x = kinship(4, 2);
            x.enter(0, CLASS + 4);
            for (int c = 0; c < 8; c++) {
                put(x, LOAD, 0, CAST, c, GIVE, 0);
                boolean is = c == 4 || c == 2 || c == 0;
                dueRun("CAST to " + c, x, 9, is ? MapDesk.GIVEN : MapDesk.THROWN, is ? 3 : 2, is ? 2 : 1, is ? 4 : 1);
            }
            put(x, LOAD, 0, CAST, 5, RETURN, 0, STORE, 1, RETURN, 0);
            x.handler(1, 2, 3, 1);
            dueRun("caught", x, 9, MapDesk.RETURNED, 4, 4, -1);
            dueHeld("READY, of class 1", x, 7, 4, 0, 0);
        });
        terms("USE and THROW of NOTHING one of class 2", () -> {
            for (int op : new int[] {USE, THROW}) {
                dueRun(op + " of NOTHING", desk(NONE, 0, op, 6, RETURN, 0), 9, MapDesk.THROWN, 2, 1, 2);
                MapDesk x = desk(NONE, 0, op, 6, RETURN, 0, STORE, 1, RETURN, 0);
                x.handler(1, 2, 3, 2);
                dueRun("caught", x, 9, MapDesk.RETURNED, 4, 4, -1);
                dueHeld("READY, of class 2", x, 0, 5, 0, 0);
            }
            dueRun("CAST of NOTHING throws not", desk(NONE, 0, CAST, 6, RETURN, 0), 9, MapDesk.RETURNED, 3, 2, -1);
            dueRun("GIVE of NOTHING throws not", desk(NONE, 0, GIVE, 6), 9, MapDesk.GIVEN, 2, 1, -1);
        });
        terms("THROW throws an OBJECT.", () -> {
            for (int c = 0; c < 8; c++) {
                MapDesk x = desk(LOAD, 0, THROW, 0);
                x.enter(0, CLASS + c);
                dueRun("THROW of class " + c, x, 9, MapDesk.THROWN, 2, 1, c);
            }
        });
        terms("What is thrown goes to the first HANDLER, in their order, that covers the instruction", () -> {
            MapDesk x = desk(NONE, 0, THROW, 0, RETURN, 0, RETURN, 0, RETURN, 0, RETURN, 0);
            x.handler(0, 1, 2, 0);
            x.handler(2, 24, 3, 0);
            x.handler(1, 2, 5, 0);
            x.handler(0, 24, 4, 0);
            dueRun("the first that covers", x, 9, MapDesk.RETURNED, 3, 5, -1);
            x = desk(NONE, 0, THROW, 0, RETURN, 0, RETURN, 0);
            x.handler(0, 24, 3, 0);
            x.handler(1, 2, 2, 2);
            dueRun("not the nearest", x, 9, MapDesk.RETURNED, 3, 3, -1);
        });
        terms("and whose class is that of the OBJECT or an ancestor", () -> {
            for (int c = 0; c < 8; c++) {
                MapDesk x = kinship(6, 4, 4, 1, 7, 6);
                x.enter(0, CLASS + 6);
                put(x, LOAD, 0, THROW, 0, RETURN, 0);
                x.handler(1, 2, 2, c);
                boolean is = c == 6 || c == 4 || c == 1 || c == 0;
                dueRun("HANDLER of class " + c, x, 9, is ? MapDesk.RETURNED : MapDesk.THROWN, is ? 3 : 2, is ? 2 : 1, is ? -1 : 6);
            }
            MapDesk x = kinship(2, 1);
            put(x, NONE, 0, THROW, 0, RETURN, 0);
            x.handler(1, 2, 2, 1);
            due("class 2 under class 1", x.run(9), MapDesk.RETURNED);
        });
        terms(": the STACK has that OBJECT alone, on at the target", () -> {
            MapDesk x = desk(CONST, 1, CONST, 2, CONST, 3, CONST, 4, CONST, 5, NONE, 0, USE, 0, RETURN, 0, STORE, 1, POP, 0, RETURN, 0);
            x.handler(6, 7, 8, 0);
            dueRun("none is below", x, 20, MapDesk.STUCK, 9, 9, -1);
            dueHeld("it is on top", x, 0, 5, 0, 0);
            x = desk(LOAD, 0, THROW, 0, RETURN, 0, GIVE, 6);
            x.enter(0, CLASS + 6);
            x.handler(1, 2, 3, 0);
            dueRun("that OBJECT, not one of the HANDLER's class", x, 9, MapDesk.GIVEN, 3, 3, 6);
            x = desk(MAKE, 3, STORE, 0, CONST, 5, STORE, 1, NONE, 0, THROW, 0, RETURN, 0, RETURN, 0);
            x.handler(5, 6, 7, 0);
            x.run(20);
            dueHeld("LOCALS stay", x, 14, 1, 0, 0);
        });
        terms("if there is none the RUN ends.", () -> {
            dueRun("no HANDLER", desk(NONE, 0, THROW, 0, RETURN, 0), 9, MapDesk.THROWN, 2, 1, 2);
            MapDesk x = desk(NONE, 0, THROW, 0, RETURN, 0);
            x.handler(0, 1, 2, 0);
            x.handler(2, 3, 2, 0);
            x.handler(1, 2, 2, 1);
            x.handler(1, 2, 2, 3);
            dueRun("none that covers it and is of the class", x, 9, MapDesk.THROWN, 2, 1, 2);
        });
    }

    private static void maps() {
        terms("MAPS are FRAMES kept at all places to which some place (itself, too) leads by GO, IF, IFNULL, JSR, RET", () -> {
            MapDesk x = desk(GO, 0);
            x.lay();
            due("itself", x.place(0, 6), 1);
            x = desk(GO, 2, RETURN, 0, RETURN, 0);
            x.lay();
            due("by GO", x.place(1, 6), 1);
            due("not the first place", x.place(0, 6), 0);
            x = desk(CONST, 0, IF, 3, RETURN, 0, RETURN, 0);
            x.lay();
            due("by IF", x.place(3, 6), 1);
            x = desk(NONE, 0, IFNULL, 3, RETURN, 0, RETURN, 0);
            x.lay();
            due("by IFNULL", x.place(3, 6), 1);
            x = desk(JSR, 2, RETURN, 0, STORE, 0, RET, 0);
            x.lay();
            due("by RET", x.place(1, 6), 1);
            due("by JSR", x.place(2, 6), 1);
            due("behind STORE there is none", x.place(3, 6), 0);
            x = desk(CONST, 0, IF, 4, NONE, 0, GIVE, 0, JSR, 2);
            x.lay();
            due("with these CALLS", x.place(5, 6), 1);
            due("not with others", x.place(2, 6), 0);
            x = desk(GO, 1, GO, 2, GO, 3, RETURN, 0);
            x.lay();
            put(x, CONST, 0, RETURN, 0, GO, 1, GO, 1);
            x.lay();
            due("no place leads there, though instructions would", x.place(1, 6), 0);
            x = desk(JSR, 1, STORE, 0, CONST, 0, STORE, 1, RETURN, 0);
            x.lay();
            due("a JSR alone has none", x.place(0, 6), 0);
        });
        terms("(as the target, not behind IF and IFNULL)", () -> {
            MapDesk x = desk(CONST, 0, IF, 3, RETURN, 0, RETURN, 0);
            x.lay();
            due("behind IF", x.place(2, 6), 0);
            x = desk(NONE, 0, IFNULL, 3, RETURN, 0, RETURN, 0);
            x.lay();
            due("behind IFNULL", x.place(2, 6), 0);
        });
        terms("or a HANDLER.", () -> {
            MapDesk x = desk(RETURN, 0, RETURN, 0, RETURN, 0);
            x.handler(0, 1, 1, 5);
            x.lay();
            due("by a HANDLER", x.place(1, 6), 1);
            dueMap("by a HANDLER", x, 1, TOP, TOP, TOP, TOP, CLASS + 5);
            x = desk(CONST, 0, RETURN, 0, RETURN, 0);
            x.handler(2, 3, 1, 5);
            x.lay();
            due("not if no place is covered", x.place(1, 6), 0);
        });
        terms("(A place whose IF goes on at the next instruction leads there, too, so there is a MAP.)", () -> {
            MapDesk x = desk(CONST, 0, IF, 2, RETURN, 0);
            x.lay();
            due("IF to the next", x.place(2, 6), 1);
            x = desk(NONE, 0, IFNULL, 2, RETURN, 0);
            x.lay();
            due("IFNULL to the next", x.place(2, 6), 1);
            x = desk(GO, 1, RETURN, 0);
            x.lay();
            due("GO to the next", x.place(1, 6), 1);
        });
    }

    public static void main(String[] args) {
        desks();
        calls();
        allSaid("What it is");
        classes();
        fitting();
        joining();
        frames();
        needsOfInstructions();
        needsOfObjects();
        waysOfInstructions();
        waysOfPlaces();
        shape();
        order();
        typesOfPlaces();
        runs();
        needsOfRuns();
        thrown();
        maps();
        allSaid("Terms");
        endOfTests();
    }
}
