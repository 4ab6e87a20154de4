/** Each promise of the document: ordinary inputs, the edges that it names, and wrong inputs. */
public final class PromiseTest extends Due {
    static void newObject() {
        MapDesk x = new MapDesk();
        due("new: places", x.places(), 0);
        due("new: place", x.place(0, 0), -1);
        due("new: type", x.type(0, 0), -1);
        due("new: map", x.map(0, 0), -1);
        due("new: alter", x.alter(0, 0, 0), false);
        due("new: check", x.check(), -2);
        due("new: reason", x.reason(), 0);
        due("new: wrong", x.wrong(0), -1);
        due("new: run", x.run(1), MapDesk.BAD);
        due("new: ended", x.ended(0), -1);
        due("new: held", x.held(0, false), -1);
        due("new: lay", x.lay(), MapDesk.BAD);
        due("new: clear", x.clear(), 0);
        due("new: first handler", x.handler(0, 1, 0, 0), 1);
        due("new: first instruction", x.add(RETURN, 0), 1);
        for (int local = 0; local < 4; local++) {
            due("new: LOCALS are TOP", lay(LOAD, local, POP, 0, RETURN, 0), MapDesk.TYPE);
        }
        for (int c = 1; c < 8; c++) {
            for (int p = 0; p < 8; p++) {
                MapDesk y = desk(LOAD, 0, USE, p, RETURN, 0);
                y.enter(0, CLASS + c);
                due("new: PARENT of " + c + " is 0, not " + p, y.lay(), p == 0 || p == c ? MapDesk.OK : MapDesk.TYPE);
            }
        }
    }

    static void kin() {
        MapDesk x = desk(RETURN, 0);
        for (int c = -2; c < 10; c++) {
            for (int p = -2; p < 10; p++) {
                due("kin(" + c + ", " + p + ")", x.kin(c, p), c >= 1 && c <= 7 && p >= 0 && p < c);
            }
        }
        due("kin of far numbers", x.kin(LEAST, LEAST) || x.kin(GREATEST, 0) || x.kin(7, GREATEST) || x.kin(7, LEAST), false);
        due("kin: lay", x.lay(), MapDesk.OK);
        due("kin false", x.kin(3, 3), false);
        due("kin false keeps what is laid out", x.places(), 1);
        due("kin true", x.kin(3, 2), true);
        due("kin true, though the same, ends what is laid out", x.places(), 0);

        MapDesk y = desk(LOAD, 0, USE, 2, RETURN, 0);
        y.enter(0, CLASS + 6);
        y.kin(6, 4);
        y.kin(4, 2);
        due("kin: ancestors of ancestors", y.lay(), MapDesk.OK);
        y.kin(6, 6);
        due("kin false changes no PARENT", y.lay(), MapDesk.OK);
        y.kin(4, 3);
        due("kin: another PARENT", y.lay(), MapDesk.TYPE);
        y.clear();
        put(y, LOAD, 0, USE, 3, RETURN, 0);
        due("kin: PARENTs stay with clear", y.lay(), MapDesk.OK);
    }

    static void enter() {
        for (int local = -2; local < 7; local++) {
            MapDesk y = new MapDesk();
            for (int type = -2; type < 95; type++) {
                due("enter(" + local + ", " + type + ")", y.enter(local, type), local >= 0 && local < 4 && type >= 0 && type < 11);
            }
        }
        MapDesk x = desk(LOAD, 2, POP, 0, RETURN, 0);
        due("enter of far numbers", x.enter(LEAST, 0) || x.enter(GREATEST, 0) || x.enter(0, LEAST) || x.enter(0, GREATEST), false);
        x.enter(0, TOP);
        x.enter(1, INT);
        x.enter(2, NULL);
        x.enter(3, CLASS + 7);
        due("enter: lay", x.lay(), MapDesk.OK);
        due("enter false", x.enter(2, 11), false);
        dueTypes("enter", x, 0, TOP, INT, NULL, CLASS + 7);
        due("enter true", x.enter(2, NULL), true);
        due("enter ends what is laid out", x.places(), 0);
        x.clear();
        put(x, RETURN, 0);
        x.lay();
        dueTypes("enter stays with clear", x, 0, TOP, INT, NULL, CLASS + 7);
    }

    static void add() {
        int[] ends = {LEAST, -1, 0, 3, 4, 7, 8, 23, 24, GREATEST};
        for (int op = -2; op < 23; op++) {
            int limit = GREATEST;
            if (op == LOAD || op == STORE || op == RET) {
                limit = 3;
            } else if (op == MAKE || op == CAST || op == USE || op == GIVE) {
                limit = 7;
            } else if (op == GO || op == IF || op == IFNULL || op == JSR) {
                limit = 23;
            }
            for (int a : ends) {
                boolean good = op >= 0 && op <= 19 && (limit == GREATEST || a >= 0 && a <= limit);
                due("add(" + op + ", " + a + ")", new MapDesk().add(op, a), good ? 1 : MapDesk.BAD);
            }
        }
        MapDesk x = desk(RETURN, 0);
        due("add: lay", x.lay(), MapDesk.OK);
        due("add of far op", x.add(LEAST, 0), MapDesk.BAD);
        due("add BAD keeps what is laid out", x.places(), 1);
        for (int i = 2; i <= 24; i++) {
            due("add", x.add(RETURN, i), i);
            due("add ends what is laid out", x.places(), 0);
        }
        due("add: lay of 24", x.lay(), MapDesk.OK);
        due("add FULL", x.add(RETURN, 0), MapDesk.FULL);
        due("add FULL keeps what is laid out", x.places(), 1);
    }

    static void handler() {
        int[] ends = {LEAST, -1, 0, 1, 12, 23, 24, 25, GREATEST};
        for (int from : ends) {
            for (int to : ends) {
                boolean good = 0 <= from && from < to && to <= 24;
                due("handler(" + from + ", " + to + ")", new MapDesk().handler(from, to, 0, 0), good ? 1 : MapDesk.BAD);
            }
        }
        for (int end : ends) {
            due("handler to " + end, new MapDesk().handler(0, 1, end, 7), end >= 0 && end <= 23 ? 1 : MapDesk.BAD);
        }
        for (int c = -2; c < 10; c++) {
            due("handler of class " + c, new MapDesk().handler(0, 1, 23, c), c >= 0 && c <= 7 ? 1 : MapDesk.BAD);
        }
        due("handler of far class", new MapDesk().handler(0, 1, 0, GREATEST), MapDesk.BAD);

        MapDesk x = desk(RETURN, 0);
        x.lay();
        due("handler BAD", x.handler(1, 1, 0, 0), MapDesk.BAD);
        due("handler BAD keeps what is laid out", x.places(), 1);
        for (int i = 1; i <= 4; i++) {
            due("handler", x.handler(1, 2, 0, 0), i);
            due("handler ends what is laid out", x.places(), 0);
            due("handler: lay", x.lay(), MapDesk.OK);
        }
        due("handler FULL", x.handler(1, 2, 0, 0), MapDesk.FULL);
        due("handler FULL keeps what is laid out", x.places(), 1);
    }

    static void clear() {
        MapDesk x = desk(CONST, 5, POP, 0, RETURN, 0);
        for (int i = 0; i < 4; i++) {
            x.handler(0, 3, 2, 0);
        }
        x.enter(1, INT);
        due("clear", x.clear(), 3);
        due("clear again", x.clear(), 0);
        due("clear: lay", x.lay(), MapDesk.BAD);
        due("clear: handlers are gone", x.handler(4, 5, 0, 0), 1);
        due("clear: instructions are gone", x.add(RETURN, 0), 1);
        due("clear: lay anew", x.lay(), MapDesk.OK);
        dueTypes("clear: LOCALS stay", x, 0, TOP, INT, TOP, TOP);
        due("clear of one", x.clear(), 1);
        due("clear ends what is laid out", x.places(), 0);
    }

    static void layBad() {
        due("lay of GO behind", lay(GO, 1), MapDesk.BAD);
        due("lay of IF behind, never come to", lay(RETURN, 0, IF, 2), MapDesk.BAD);
        due("lay of IFNULL behind", lay(RETURN, 0, IFNULL, 23), MapDesk.BAD);
        due("lay of JSR behind", lay(RETURN, 0, JSR, 2), MapDesk.BAD);
        due("lay of GO to the last", lay(GO, 1, RETURN, 0), MapDesk.OK);
        due("lay of CONST with a far a", lay(CONST, 99, POP, 99, RETURN, 99), MapDesk.OK);
        MapDesk x = desk(RETURN, 0);
        x.handler(5, 6, 1, 0);
        due("lay of HANDLER behind, that covers nothing", x.lay(), MapDesk.BAD);
        put(x, RETURN, 0, RETURN, 0);
        x.handler(5, 24, 1, 0);
        due("lay of HANDLER that covers nothing", x.lay(), MapDesk.OK);
        due("lay of HANDLER that covers nothing: places", x.places(), 1);
        x.clear();
        due("lay of nothing", x.lay(), MapDesk.BAD);
        due("lay BAD: places", x.places(), 0);
        due("lay BAD: check", x.check(), -2);
    }

    static void layTypes() {
        MapDesk x = desk(LOAD, 0, GO, 3, RETURN, 0, POP, 0, GO, 2);
        due("lay TYPE", x.lay(), MapDesk.TYPE);
        due("lay TYPE: places", x.places(), 5);
        dueTypes("lay TYPE", x, 3);
        dueMap("lay TYPE: all TOP, with as many values", x, 3, TOP, TOP, TOP, TOP, TOP);
        dueMap("lay TYPE: no value", x, 2, TOP, TOP, TOP, TOP);
        x.enter(0, INT);
        due("lay OK", x.lay(), MapDesk.OK);
        dueMap("lay OK: the FRAME found", x, 3, INT, TOP, TOP, TOP, INT);
        x.alter(3, 4, TOP);
        x.lay();
        dueMap("lay makes MAPS anew", x, 3, INT, TOP, TOP, TOP, INT);

        due("LOAD of a LINK", lay(JSR, 1, STORE, 0, LOAD, 0, POP, 0, RETURN, 0), MapDesk.TYPE);
        due("LOAD of a NEW", lay(MAKE, 0, STORE, 0, LOAD, 0, POP, 0, RETURN, 0), MapDesk.OK);
        due("ADD of INT, NULL", lay(CONST, 0, NONE, 0, ADD, 0, RETURN, 0), MapDesk.TYPE);
        due("ADD of NULL, INT", lay(NONE, 0, CONST, 0, ADD, 0, RETURN, 0), MapDesk.TYPE);
        due("ADD of INT, INT", lay(CONST, 0, CONST, 0, ADD, 0, IF, 4, RETURN, 0), MapDesk.OK);
        due("INIT of INT", lay(CONST, 0, INIT, 0, RETURN, 0), MapDesk.TYPE);
        due("INIT of NULL", lay(NONE, 0, INIT, 0, RETURN, 0), MapDesk.TYPE);
        due("INIT twice of one", lay(MAKE, 1, DUP, 0, INIT, 0, INIT, 0, RETURN, 0), MapDesk.TYPE);
        due("CAST of INT", lay(CONST, 0, CAST, 0, RETURN, 0), MapDesk.TYPE);
        due("CAST of NEW", lay(MAKE, 0, CAST, 0, RETURN, 0), MapDesk.TYPE);
        due("CAST of NULL, to USE", lay(NONE, 0, CAST, 3, USE, 3, RETURN, 0), MapDesk.OK);
        due("CAST to another class, to USE", lay(NONE, 0, CAST, 3, USE, 4, RETURN, 0), MapDesk.TYPE);
        due("USE of NULL", lay(NONE, 0, USE, 5, RETURN, 0), MapDesk.OK);
        due("USE of NEW", lay(MAKE, 5, USE, 5, RETURN, 0), MapDesk.TYPE);
        due("USE of a lower class", lay(NONE, 0, CAST, 0, USE, 5, RETURN, 0), MapDesk.TYPE);
        due("IF of NULL", lay(NONE, 0, IF, 2, RETURN, 0), MapDesk.TYPE);
        due("IFNULL of INT", lay(CONST, 0, IFNULL, 2, RETURN, 0), MapDesk.TYPE);
        due("IFNULL of NULL", lay(NONE, 0, IFNULL, 2, RETURN, 0), MapDesk.OK);
        due("IFNULL of CLASS 7", lay(NONE, 0, CAST, 7, IFNULL, 3, RETURN, 0), MapDesk.OK);
        due("IFNULL of NEW", lay(MAKE, 0, IFNULL, 2, RETURN, 0), MapDesk.TYPE);
        due("GIVE of NULL", lay(NONE, 0, GIVE, 1), MapDesk.OK);
        due("GIVE of INT", lay(CONST, 0, GIVE, 0), MapDesk.TYPE);
        due("THROW of NULL", lay(NONE, 0, THROW, 0), MapDesk.OK);
        due("THROW of INT", lay(CONST, 0, THROW, 0), MapDesk.TYPE);
        due("THROW of LINK", lay(JSR, 1, THROW, 0), MapDesk.TYPE);
        due("RET of TOP", lay(JSR, 2, RETURN, 0, POP, 0, RET, 0), MapDesk.TYPE);
        due("RET of its LINK", lay(JSR, 2, RETURN, 0, STORE, 0, RET, 0), MapDesk.OK);
        due("RET of another LINK", lay(JSR, 2, RETURN, 0, STORE, 0, JSR, 5, RET, 0, POP, 0, RET, 0), MapDesk.TYPE);
        due("RET of the LINK of the last JSR", lay(JSR, 2, RETURN, 0, STORE, 0, JSR, 5, RET, 0, STORE, 1, RET, 1), MapDesk.OK);
        due("SWAP", lay(CONST, 0, NONE, 0, SWAP, 0, IF, 4, THROW, 0), MapDesk.OK);
        due("SWAP leaves the lower on top", lay(NONE, 0, CONST, 0, SWAP, 0, IF, 4, RETURN, 0), MapDesk.TYPE);
        due("CONST, NONE", lay(CONST, 0, NONE, 0, IF, 3, RETURN, 0), MapDesk.TYPE);
    }

    static void wrongKinds() {
        dueWrong("1", desk(CONST, 0), 1, 0, 0);
        dueWrong("1 by IF, which leads nowhere then", desk(CONST, 0, GO, 4, POP, 0, RETURN, 0, IF, 2), 1, 4, 0);
        dueWrong("1 by IFNULL", desk(NONE, 0, IFNULL, 0), 1, 1, 0);
        dueWrong("1 by RET behind the last JSR", desk(GO, 3, STORE, 0, RET, 0, JSR, 1), 1, 2, 1, 3);
        dueWrong("2 of one", desk(POP, 0, RETURN, 0), 2, 0, 0);
        dueWrong("2 of two", desk(CONST, 0, ADD, 0, RETURN, 0), 2, 1, 0);
        dueWrong("2 of SWAP", desk(CONST, 0, SWAP, 0, RETURN, 0), 2, 1, 0);
        for (int op : new int[] {STORE, POP, DUP, INIT, CAST, USE, IF, IFNULL, GIVE, THROW}) {
            dueWrong("2 by " + op, desk(op, 0, RETURN, 0), 2, 0, 0);
        }
        for (int op : new int[] {CONST, NONE, DUP, MAKE, JSR}) {
            dueWrong("3 by " + op, desk(CONST, 0, CONST, 0, CONST, 0, CONST, 0, CONST, 0, CONST, 0, op, 0, RETURN, 0), 3, 6, 0);
        }
        due("6 values", lay(CONST, 0, CONST, 0, CONST, 0, CONST, 0, CONST, 0, DUP, 0, RETURN, 0), MapDesk.OK);
        due("SWAP of 6", lay(CONST, 0, CONST, 0, CONST, 0, CONST, 0, CONST, 0, DUP, 0, SWAP, 0, ADD, 0, RETURN, 0), MapDesk.OK);
        dueWrong("4, in its CALLS", desk(JSR, 1, POP, 0, JSR, 1), 4, 2, 2, 0, 2);
        dueWrong("4 by itself", desk(JSR, 0), 4, 0, 1, 0);
        dueWrong("4, with 3", desk(JSR, 1, JSR, 2, JSR, 3, JSR, 4, RETURN, 0), 4, 3, 3, 0, 1, 2);
        due("3 CALLS", lay(JSR, 1, JSR, 2, JSR, 3, RETURN, 0), MapDesk.OK);
        dueWrong("5", desk(RET, 0), 5, 0, 0);
        dueWrong("6", desk(CONST, 0, IF, 3, CONST, 0, RETURN, 0), 6, 3, 0);
    }

    static void wrongMixed() {
        MapDesk x = desk(RETURN, 0);
        x.handler(0, 1, 0, 0);
        dueWrong("6", x, 6, 0, 0);
        x.lay();
        due("wrong of far numbers", x.wrong(LEAST), -1);
        due("wrong of far numbers", x.wrong(GREATEST), -1);
        due("wrong(-1)", x.wrong(-1), -1);
        due("wrong(6)", x.wrong(6), -1);
        x.add(RETURN, 0);
        x.enter(0, 1);
        due("wrong is of the latest lay, whatever came since", x.wrong(0), 6);
        x.run(5);
        due("wrong after a run", x.wrong(1), 0);
        x.clear();
        x.lay();
        due("wrong after lay BAD", x.wrong(0), -1);
        put(x, RETURN, 0);
        x.lay();
        due("wrong after lay OK", x.wrong(0), -1);
        put(x, LOAD, 3, RETURN, 0);
        x.lay();
        due("wrong after lay TYPE", x.wrong(0), -1);

        dueWrong("least of 1 and 2", desk(POP, 0), 1, 0, 0);
        dueWrong("least of 3 and 6: each number leads on", desk(CONST, 0, GO, 0), 3, 0, 0);
        dueWrong("first in order, not as come to", desk(GO, 3, POP, 0, RETURN, 0, CONST, 0, IF, 1, POP, 0, RETURN, 0), 2, 1, 0);
        dueWrong("fewer CALLS come first", desk(CONST, 0, IF, 4, POP, 0, RETURN, 0, JSR, 5, POP, 0, POP, 0), 2, 2, 0);
        dueWrong("then the first CALL", desk(CONST, 0, IF, 3, JSR, 4, JSR, 4, POP, 0, POP, 0), 1, 5, 1, 2);
        dueWrong("with one number WRONG, with another it leads on",
            desk(CONST, 0, IF, 3, CONST, 0, POP, 0, POP, 0, RETURN, 0), 2, 3, 0);
        MapDesk y = desk(POP, 0, RETURN, 0, POP, 0, POP, 0, RETURN, 0);
        y.handler(0, 1, 2, 0);
        dueWrong("WRONG places lead to no HANDLER", y, 2, 0, 0);
        y = desk(CONST, 0, IF, 3, RETURN, 0, POP, 0, RETURN, 0, POP, 0, POP, 0, RETURN, 0);
        y.handler(3, 4, 5, 0);
        dueWrong("WRONG places lead to no HANDLER, and are the only ones", y, 2, 3, 0);
    }

    static void manyPlaces() {
        MapDesk x = new MapDesk();
        for (int i = 0; i < 19; i++) {
            x.add(JSR, 21);
        }
        x.add(RETURN, 0);
        x.add(RETURN, 0);
        x.add(STORE, 0);
        x.add(RET, 0);
        dueWrong("more than 40", x, 7);
        x.clear();
        for (int i = 0; i < 13; i++) {
            x.add(JSR, 14);
        }
        x.add(RETURN, 0);
        x.add(STORE, 0);
        x.add(RET, 0);
        due("14 places and 26 more: lay", x.lay(), MapDesk.OK);
        due("14 places and 26 more", x.places(), 40);
        dueCheck("40 places", x, -1, 0);
        due("the last place", x.place(39, 0), 15);
        due("behind the last place", x.place(40, 0), -1);
        due("the LINK of the last JSR", x.type(38, 4), LINK + 12);
        x.clear();
        x.add(NONE, 0);
        x.add(POP, 0);
        for (int i = 2; i < 14; i++) {
            x.add(JSR, 15);
        }
        x.add(GO, 20);
        x.add(STORE, 0);
        x.add(RET, 0);
        x.add(RETURN, 0);
        x.add(RETURN, 0);
        x.add(RETURN, 0);
        x.add(POP, 0);
        x.add(RETURN, 0);
        dueWrong("40 places with a WRONG one", x, 2, 20, 0);
        x.handler(14, 15, 18, 0);
        dueWrong("41 places with a WRONG one", x, 7);
    }

    static void placesInOrder() {
        MapDesk x = desk(JSR, 4, JSR, 4, RETURN, 0, RETURN, 0, STORE, 0, JSR, 7, RET, 0, STORE, 1, RET, 1);
        due("nested: lay", x.lay(), MapDesk.OK);
        due("nested: places", x.places(), 13);
        duePlace("nested", x, 0, 0, 0, 0, -1, -1, -1, 0, -1);
        duePlace("nested", x, 1, 1, 0, 0, -1, -1, -1, 1, -1);
        duePlace("nested", x, 2, 2, 0, 0, -1, -1, -1, 1, -1);
        duePlace("nested", x, 3, 4, 1, 1, 0, -1, -1, 1, -1);
        duePlace("nested", x, 4, 5, 0, 1, 0, -1, -1, 0, -1);
        duePlace("nested", x, 5, 6, 0, 1, 0, -1, -1, 1, -1);
        duePlace("nested", x, 6, 4, 1, 1, 1, -1, -1, 1, -1);
        duePlace("nested", x, 8, 6, 0, 1, 1, -1, -1, 1, -1);
        duePlace("nested", x, 9, 7, 1, 2, 0, 5, -1, 1, -1);
        duePlace("nested", x, 10, 8, 0, 2, 0, 5, -1, 0, -1);
        duePlace("nested", x, 11, 7, 1, 2, 1, 5, -1, 1, -1);
        duePlace("nested", x, 12, 8, 0, 2, 1, 5, -1, 0, -1);
        duePlace("nested", x, 13, -1, -1, -1, -1, -1, -1, -1, -1);
        duePlace("nested", x, -1, -1, -1, -1, -1, -1, -1, -1, -1);
        due("place of far numbers", x.place(LEAST, 0), -1);
        due("place of far numbers", x.place(GREATEST, 0), -1);
        due("place of far numbers", x.place(0, LEAST), -1);
        due("place of far numbers", x.place(0, GREATEST), -1);
        due("place(0, -1)", x.place(0, -1), -1);
        dueTypes("nested: LINKs are by place", x, 3, TOP, TOP, TOP, TOP, LINK);
        dueTypes("nested: LINKs are by place", x, 6, LINK, LINK + 4, TOP, TOP, LINK + 1);
        dueTypes("nested: LINKs are by place", x, 9, LINK, TOP, TOP, TOP, LINK + 4);
        dueTypes("nested: LINKs are by place", x, 11, LINK + 1, LINK + 4, TOP, TOP, LINK + 7);
        dueTypes("nested: behind", x, 2, LINK + 1, LINK + 7, TOP, TOP);
        dueCheck("nested", x, -1, 0);

        x = desk(JSR, 1, JSR, 2, JSR, 3, RETURN, 0);
        x.lay();
        due("three CALLS: places", x.places(), 4);
        duePlace("three CALLS", x, 3, 3, 3, 3, 0, 1, 2, 1, -1);
        dueTypes("three CALLS", x, 3, TOP, TOP, TOP, TOP, LINK, LINK + 1, LINK + 2);
        x.handler(20, 21, 0, 0);
        due("places when ended", x.places(), 0);
        due("place when ended", x.place(0, 0), -1);
        due("type when ended", x.type(0, 0), -1);
        due("map when ended", x.map(1, 0), -1);
        due("alter when ended", x.alter(1, 0, 0), false);
    }

    static void maps() {
        MapDesk x = desk(CONST, 0, IF, 2, NONE, 0, IFNULL, 5, RETURN, 0, RETURN, 0);
        x.lay();
        due("no MAP at the first place", x.place(0, 6), 0);
        due("no MAP behind", x.place(1, 6), 0);
        due("MAP where IF goes on at the next", x.place(2, 6), 1);
        due("no MAP behind IFNULL", x.place(4, 6), 0);
        due("MAP where IFNULL goes", x.place(5, 6), 1);
        x = desk(GO, 0);
        x.lay();
        due("MAP at a place that leads to itself", x.place(0, 6), 1);
        x = desk(CONST, 0, POP, 0, RETURN, 0, POP, 0, RETURN, 0);
        x.handler(1, 2, 3, 4);
        x.lay();
        due("MAP at the target of a HANDLER", x.place(3, 6), 1);
        due("no MAP where no jump leads", x.place(4, 6), 0);
        dueMap("HANDLER", x, 3, TOP, TOP, TOP, TOP, CLASS + 4);
        dueMap("no MAP", x, 4);
        x = desk(CONST, 0, POP, 0, RETURN, 0, POP, 0, RETURN, 0);
        x.handler(2, 3, 3, 4);
        x.lay();
        due("RETURN leads to HANDLERS, too", x.places(), 5);
        x = desk(CONST, 0, POP, 0, RETURN, 0, POP, 0, RETURN, 0);
        x.handler(3, 24, 3, 4);
        x.lay();
        due("a HANDLER covers from .. to - 1 only", x.places(), 3);
        due("map of far numbers", x.map(LEAST, 0), -1);
        due("map of far numbers", x.map(0, GREATEST), -1);
        due("type of far numbers", x.type(GREATEST, 0), -1);
        due("type of far numbers", x.type(0, LEAST), -1);
        due("type(0, -1)", x.type(0, -1), -1);
    }

    /** Two ways to instruction 7 with these types in local 0; what is found there. */
    static int joined(MapDesk x, int one, int two) {
        x.enter(1, one);
        x.enter(2, two);
        put(x, LOAD, 1, STORE, 0, CONST, 0, IF, 5, GO, 7, LOAD, 2, STORE, 0, RETURN, 0);
        due("joined: lay", x.lay(), MapDesk.OK);
        return x.type(7, 0);
    }

    static void joins() {
        MapDesk x = new MapDesk();
        x.kin(2, 1);
        x.kin(3, 1);
        x.kin(4, 2);
        x.kin(5, 4);
        x.kin(6, 3);
        int[][] cases = {
            {INT, INT, INT}, {NULL, NULL, NULL}, {INT, NULL, TOP}, {INT, CLASS, TOP},
            {NULL, CLASS, CLASS}, {NULL, CLASS + 5, CLASS + 5}, {CLASS + 2, CLASS + 3, CLASS + 1},
            {CLASS + 4, CLASS + 2, CLASS + 2}, {CLASS + 5, CLASS + 1, CLASS + 1}, {CLASS + 5, CLASS + 6, CLASS + 1},
            {CLASS + 7, CLASS + 5, CLASS}, {CLASS, CLASS + 5, CLASS}, {CLASS + 5, CLASS + 5, CLASS + 5},
        };
        for (int[] one : cases) {
            due("JOIN of " + one[0] + ", " + one[1], joined(x, one[0], one[1]), one[2]);
            due("JOIN of " + one[1] + ", " + one[0], joined(x, one[1], one[0]), one[2]);
        }
        x = desk(CONST, 0, IF, 5, MAKE, 1, STORE, 0, GO, 7, MAKE, 1, STORE, 0, RETURN, 0);
        due("JOIN of two NEWs: lay", x.lay(), MapDesk.OK);
        due("NEW of one place", x.type(4, 0), NEW + 2);
        due("JOIN of two NEWs", x.type(7, 0), TOP);
        x = desk(CONST, 0, NONE, 0, CONST, 0, IF, 6, RETURN, 0, RETURN, 0, STORE, 3, GO, 1);
        due("types go round: lay", x.lay(), MapDesk.OK);
        dueTypes("types go round", x, 1, TOP, TOP, TOP, TOP, INT);
    }

    static void typesFound() {
        MapDesk x = desk(MAKE, 3, DUP, 0, STORE, 1, DUP, 0, INIT, 0, CAST, 5, RETURN, 0);
        due("NEW: lay", x.lay(), MapDesk.OK);
        dueTypes("NEW", x, 4, TOP, NEW, TOP, TOP, NEW, NEW);
        dueTypes("INIT", x, 5, TOP, CLASS + 3, TOP, TOP, CLASS + 3);
        dueTypes("CAST", x, 6, TOP, CLASS + 3, TOP, TOP, CLASS + 5);
        x = desk(MAKE, 3, STORE, 0, MAKE, 4, DUP, 0, INIT, 0, RETURN, 0);
        x.lay();
        dueTypes("INIT of one NEW leaves another", x, 5, NEW, TOP, TOP, TOP, CLASS + 4);
        x = desk(CONST, 7, STORE, 2, NONE, 0, STORE, 2, RETURN, 0, STORE, 0, RETURN, 0);
        x.handler(1, 3, 5, 6);
        x.lay();
        dueTypes("HANDLERS have LOCALS as they were before", x, 5, TOP, TOP, TOP, TOP, CLASS + 6);
        x = desk(CONST, 7, STORE, 2, NONE, 0, STORE, 2, RETURN, 0, STORE, 0, RETURN, 0);
        x.handler(2, 4, 5, 6);
        x.lay();
        dueTypes("what STORE makes does not go there", x, 5, TOP, TOP, INT, TOP, CLASS + 6);
        x = desk(RETURN, 0, RETURN, 0);
        x.handler(0, 1, 1, 2);
        x.handler(0, 1, 1, 3);
        x.lay();
        dueTypes("two HANDLERS with one target", x, 1, TOP, TOP, TOP, TOP, CLASS);
    }

    static void alter() {
        MapDesk x = desk(CONST, 0, GO, 2, POP, 0, RETURN, 0);
        x.lay();
        for (int type = -2; type < 95; type++) {
            due("alter to " + type, x.alter(2, 4, type), type >= 0 && type <= 90);
            due("altered to " + type, x.map(2, 4), type < 0 || type > 90 ? (type < 0 ? INT : 90) : type);
        }
        due("alter leaves what was found", x.type(2, 4), INT);
        due("alter without a MAP", x.alter(0, 0, 0), false);
        due("alter without such a slot", x.alter(2, 5, 0), false);
        due("alter(2, -1)", x.alter(2, -1, 0), false);
        due("alter(4, 0)", x.alter(4, 0, 0), false);
        due("alter(-1, 0)", x.alter(-1, 0, 0), false);
        due("alter of far numbers", x.alter(LEAST, 0, 0) || x.alter(GREATEST, 0, 0), false);
        due("alter of far numbers", x.alter(2, LEAST, 0) || x.alter(2, GREATEST, 0), false);
        due("alter of far numbers", x.alter(2, 4, LEAST) || x.alter(2, 4, GREATEST), false);
        dueMap("alter false changes nothing", x, 2, TOP, TOP, TOP, TOP, 90);
        x.alter(2, 3, INT);
        dueMap("alter changes one slot", x, 2, TOP, TOP, TOP, INT, 90);
    }

    static void checkReasons() {
        MapDesk x = desk(CONST, 0, IF, 3, POP, 0, RETURN, 0);
        x.enter(0, CLASS + 2);
        dueWrong("2", x, 2, 2, 0);
        put(x, NONE, 0, STORE, 1, CONST, 0, IF, 4, RETURN, 0);
        due("check: lay", x.lay(), MapDesk.OK);
        dueCheck("all is so", x, -1, 0);
        x.alter(4, 0, CLASS);
        x.alter(4, 1, CLASS + 7);
        dueCheck("an ancestor, and NULL to a CLASS", x, -1, 0);
        x.alter(4, 1, INT);
        dueCheck("JUMP comes before FALL", x, 3, MapDesk.JUMP);
        x.lay();
        due("reason after lay", x.reason(), 0);
        x.alter(4, 0, CLASS + 3);
        dueCheck("CLASS to another", x, 3, MapDesk.JUMP);
        x.add(RETURN, 0);
        due("reason stays until lay or check", x.reason(), MapDesk.JUMP);
        due("check when ended", x.check(), -2);
        due("reason of that", x.reason(), 0);

        x = desk(CONST, 0, STORE, 0, LOAD, 0, IF, 0, RETURN, 0);
        x.enter(0, INT);
        due("loop: lay", x.lay(), MapDesk.OK);
        dueCheck("loop", x, -1, 0);
        x.alter(0, 0, NULL);
        dueCheck("FALL at the first place", x, 0, MapDesk.FALL);
        x.alter(0, 0, TOP);
        dueCheck("a MAP may say less", x, -1, 0);

        x = desk(CONST, 0, IF, 4, NONE, 0, STORE, 0, LOAD, 0, IFNULL, 6, RETURN, 0);
        x.enter(0, NULL);
        x.lay();
        x.alter(4, 0, CLASS + 1);
        dueCheck("the FRAME is the MAP then", x, 5, MapDesk.JUMP);
        x.alter(6, 0, CLASS + 1);
        dueCheck("FALL is FIT, and the FRAME is the MAP then", x, -1, 0);
        x.alter(4, 0, INT);
        dueCheck("JUMP at IF", x, 1, MapDesk.JUMP);
        x.alter(4, 0, TOP);
        dueCheck("NEEDS after a MAP", x, 4, MapDesk.NEEDS);
        put(x, GO, 3, NONE, 0, STORE, 0, CONST, 0, IF, 1, RETURN, 0);
        x.enter(0, INT);
        x.lay();
        x.alter(3, 0, INT);
        dueCheck("FALL at a place with a MAP", x, 3, MapDesk.FALL);
    }

    static void checkCaught() {
        MapDesk x = desk(CONST, 0, STORE, 0, RETURN, 0, POP, 0, RETURN, 0);
        x.kin(5, 4);
        x.handler(0, 3, 3, 5);
        x.lay();
        dueCheck("caught", x, -1, 0);
        x.alter(3, 4, CLASS + 4);
        dueCheck("caught as an ancestor", x, -1, 0);
        x.alter(3, 4, CLASS + 6);
        dueCheck("not caught so", x, 0, MapDesk.CAUGHT);
        x.alter(3, 4, TOP);
        x.alter(3, 0, INT);
        dueCheck("LOCALS before do not fit", x, 0, MapDesk.CAUGHT);
        x.enter(0, NULL);
        x.lay();
        x.alter(3, 0, NULL);
        dueCheck("LOCALS do not fit later", x, 2, MapDesk.CAUGHT);

        x = desk(LOAD, 0, RETURN, 0, POP, 0, RETURN, 0);
        x.handler(0, 1, 2, 1);
        due("CAUGHT before NEEDS: lay", x.lay(), MapDesk.TYPE);
        dueCheck("NEEDS at once", x, 0, MapDesk.NEEDS);
        x.alter(2, 4, INT);
        dueCheck("CAUGHT before NEEDS", x, 0, MapDesk.CAUGHT);
        x = desk(GO, 0, POP, 0, RETURN, 0);
        x.handler(0, 1, 1, 1);
        x.lay();
        x.alter(0, 2, INT);
        x.alter(1, 4, INT);
        dueCheck("FALL before CAUGHT", x, 0, MapDesk.FALL);
        x = desk(RETURN, 0, RETURN, 0, RETURN, 0);
        x.handler(0, 1, 1, 1);
        x.handler(0, 1, 2, 1);
        x.lay();
        x.alter(2, 4, CLASS + 2);
        dueCheck("each HANDLER", x, 0, MapDesk.CAUGHT);
    }

    static void checkNew() {
        MapDesk x = desk(MAKE, 2, GO, 2, DUP, 0, INIT, 0, USE, 2, RETURN, 0);
        due("NEW: lay", x.lay(), MapDesk.OK);
        dueCheck("NEW", x, -1, 0);
        x.alter(2, 4, NEW + 1);
        dueCheck("NEW of another place", x, 1, MapDesk.JUMP);
        x = desk(GO, 2, RETURN, 0, NONE, 0, GO, 4, POP, 0, RETURN, 0, INIT, 0, GO, 1);
        x.handler(2, 3, 6, 0);
        due("no MAKE: lay", x.lay(), MapDesk.TYPE);
        x.alter(6, 4, TOP);
        dueCheck("INIT of TOP", x, 6, MapDesk.NEEDS);

        // A MAP that is come to by one JUMP only, behind it in order, is believed until the JUMP is seen.
        x = desk(GO, 4, INIT, 0, RETURN, 0, RETURN, 0, CONST, 0, GO, 1);
        due("INIT before its JUMP: lay", x.lay(), MapDesk.TYPE);
        dueCheck("INIT of TOP", x, 1, MapDesk.NEEDS);
        for (int p = 0; p < 40; p++) {
            x.alter(1, 4, NEW + p);
            dueCheck("INIT of NEW " + p + " without a MAKE", x, 1, MapDesk.NEEDS);
        }
        x = desk(GO, 4, INIT, 0, RETURN, 0, RETURN, 0, MAKE, 3, GO, 1);
        due("INIT before its MAKE: lay", x.lay(), MapDesk.OK);
        dueCheck("INIT before its MAKE", x, -1, 0);
        x.alter(1, 4, NEW + 4);
        dueCheck("INIT of a NEW of no MAKE", x, 1, MapDesk.NEEDS);
        x.alter(1, 4, NEW + 39);
        dueCheck("INIT of a NEW of no place", x, 1, MapDesk.NEEDS);
        x.alter(1, 4, LINK);
        dueCheck("INIT of a LINK", x, 1, MapDesk.NEEDS);
        due("MAKE is place 3", x.place(3, 0), 4);
        x.alter(1, 4, NEW + 3);
        dueCheck("INIT of the NEW", x, -1, 0);

        x = desk(CONST, 0, MAKE, 1, SWAP, 0, POP, 0, GO, 1);
        due("MAKE in a loop: lay", x.lay(), MapDesk.OK);
        dueTypes("MAKE in a loop", x, 1, TOP, TOP, TOP, TOP, TOP);
        dueCheck("MAKE in a loop", x, -1, 0);
        x = desk(GO, 3, MAKE, 1, RETURN, 0, CONST, 0, GO, 1);
        x.lay();
        dueCheck("MAKE", x, -1, 0);
        x.alter(1, 4, NEW + 1);
        dueCheck("NEW of this place in the STACK", x, 1, MapDesk.NEEDS);
        x.alter(1, 4, NEW + 2);
        dueCheck("NEW of another place in the STACK", x, 4, MapDesk.JUMP);
        x = desk(GO, 3, MAKE, 1, RETURN, 0, CONST, 0, CONST, 0, CONST, 0, GO, 1);
        x.lay();
        for (int slot = 0; slot < 7; slot++) {
            x.alter(1, slot, NEW + 1);
            dueCheck("NEW of this place in slot " + slot, x, slot < 4 ? 6 : 1, slot < 4 ? MapDesk.JUMP : MapDesk.NEEDS);
            x.alter(1, slot, slot < 4 ? TOP : INT);
        }
        x = desk(GO, 3, MAKE, 1, GO, 5, CONST, 0, GO, 1, RETURN, 0);
        x.lay();
        x.alter(1, 0, NEW + 1);
        x.alter(5, 0, TOP);
        dueCheck("LOCALS that are NEW of this place become TOP", x, 4, MapDesk.JUMP);
        x.alter(5, 0, NEW + 1);
        dueCheck("and are not that then", x, 2, MapDesk.JUMP);
    }

    static void checkLinks() {
        MapDesk x = desk(JSR, 3, JSR, 3, RETURN, 0, STORE, 0, CONST, 0, IF, 7, GO, 7, RET, 0);
        due("RET: lay", x.lay(), MapDesk.OK);
        dueCheck("RET", x, -1, 0);
        due("RET of the first JSR", x.place(7, 0), 7);
        due("its CALL", x.place(7, 3), 0);
        x.alter(7, 0, LINK + 1);
        dueCheck("LINK of another JSR", x, 5, MapDesk.JUMP);
        x.alter(7, 0, TOP);
        dueCheck("RET of TOP", x, 7, MapDesk.NEEDS);
        x.alter(7, 0, LINK);
        x.alter(1, 0, TOP);
        x.alter(8, 0, TOP);
        dueCheck("less behind a RET", x, -1, 0);
        x.alter(1, 1, INT);
        dueCheck("JUMP by RET", x, 7, MapDesk.JUMP);
        x.alter(1, 1, TOP);
        x.alter(3, 4, LINK + 1);
        dueCheck("JUMP by JSR", x, 0, MapDesk.JUMP);
        x.alter(3, 4, TOP);
        dueCheck("TOP stored, no LINK", x, 5, MapDesk.JUMP);
        x = desk(GO, 3, LOAD, 0, RETURN, 0, GO, 1);
        x.enter(0, INT);
        x.lay();
        for (int type = 0; type <= 90; type++) {
            x.alter(1, 0, type);
            boolean loads = type != TOP && type < LINK;
            dueCheck("LOAD of " + type, x, type == INT ? -1 : type == TOP || !loads ? 1 : 3,
                type == INT ? 0 : type == TOP || !loads ? MapDesk.NEEDS : MapDesk.JUMP);
            if (type == INT) {
                due("the JUMP fits, too", x.reason(), 0);
            }
        }
    }

    static void runBad() {
        MapDesk x = desk(CONST, 4, STORE, 0, RETURN, 0);
        due("run(1)", x.run(1), MapDesk.LONG);
        due("run(200)", x.run(200), MapDesk.RETURNED);
        for (int most : new int[] {LEAST, -1, 0, 201, GREATEST}) {
            due("run(" + most + ")", x.run(most), MapDesk.BAD);
        }
        due("BAD changes nothing", x.ended(0), 3);
        due("BAD changes nothing", x.held(0, true), 4);
        x.clear();
        due("run of nothing", x.run(5), MapDesk.BAD);
        x.add(RETURN, 0);
        x.add(GO, 2);
        due("run where lay is BAD", x.run(5), MapDesk.BAD);
        put(x, RETURN, 0);
        x.handler(5, 6, 1, 0);
        due("run where a HANDLER leads behind", x.run(5), MapDesk.BAD);
        due("BAD changes nothing", x.ended(1), 2);
        due("BAD changes nothing", x.held(0, false), 1);
        put(x, GO, 2, POP, 0, RETURN, 0);
        x.lay();
        x.alter(2, 0, 7);
        x.check();
        due("run", x.run(9), MapDesk.RETURNED);
        due("run leaves what is laid out", x.places(), 2);
        due("run leaves MAPS", x.map(1, 0), TOP);
        due("run leaves reason", x.reason(), 0);
    }

    static void runSteps() {
        dueRun("behind the last", desk(CONST, 0), 9, MapDesk.STUCK, 1, 1, -1, -1);
        dueRun("behind the last, with just so many", desk(CONST, 0), 1, MapDesk.STUCK, 1, 1, -1);
        dueRun("LONG", desk(GO, 0), 200, MapDesk.LONG, 200, 0, -1);
        dueRun("LONG before RETURN", desk(CONST, 0, RETURN, 0), 1, MapDesk.LONG, 1, 1, -1);
        dueRun("RETURN as the last that may be", desk(CONST, 0, RETURN, 0), 2, MapDesk.RETURNED, 2, 1, -1);
        dueRun("too few", desk(CONST, 0, ADD, 0), 9, MapDesk.STUCK, 2, 1, -1);
        dueRun("too few for SWAP", desk(CONST, 0, SWAP, 0), 9, MapDesk.STUCK, 2, 1, -1);
        dueRun("too few for DUP", desk(DUP, 0), 9, MapDesk.STUCK, 1, 0, -1);
        dueRun("too many", desk(CONST, 0, GO, 0), 99, MapDesk.STUCK, 13, 0, -1);
        dueRun("too many of JSR", desk(JSR, 0), 99, MapDesk.STUCK, 7, 0, -1);
        dueRun("IF of 0", desk(CONST, 0, IF, 3, RETURN, 0, RETURN, 0), 9, MapDesk.RETURNED, 3, 2, -1);
        dueRun("IF of -5", desk(CONST, -5, IF, 3, RETURN, 0, RETURN, 0), 9, MapDesk.RETURNED, 3, 3, -1);
        dueRun("IF of NOTHING", desk(NONE, 0, IF, 3, RETURN, 0, RETURN, 0), 9, MapDesk.STUCK, 2, 1, -1);
        dueRun("IFNULL of NOTHING", desk(NONE, 0, IFNULL, 3, RETURN, 0, RETURN, 0), 9, MapDesk.RETURNED, 3, 3, -1);
        dueRun("IFNULL of an int", desk(CONST, 0, IFNULL, 3, RETURN, 0, RETURN, 0), 9, MapDesk.STUCK, 2, 1, -1);
        dueRun("IFNULL of one not READY", desk(MAKE, 0, IFNULL, 0), 9, MapDesk.STUCK, 2, 1, -1);
        dueRun("IFNULL of one READY", desk(MAKE, 0, DUP, 0, INIT, 0, IFNULL, 0, RETURN, 0), 9, MapDesk.RETURNED, 5, 4, -1);
        dueRun("LOAD of a LINK", desk(JSR, 1, STORE, 0, LOAD, 0), 9, MapDesk.STUCK, 3, 2, -1);
        dueRun("LOAD of no value", desk(LOAD, 1), 9, MapDesk.STUCK, 1, 0, -1);
        dueRun("ADD of NOTHING", desk(NONE, 0, CONST, 0, ADD, 0), 9, MapDesk.STUCK, 3, 2, -1);
        dueRun("ADD to NOTHING", desk(CONST, 0, NONE, 0, ADD, 0), 9, MapDesk.STUCK, 3, 2, -1);
        dueRun("INIT of one READY", desk(MAKE, 0, DUP, 0, INIT, 0, INIT, 0), 9, MapDesk.STUCK, 4, 3, -1);
        dueRun("INIT of NOTHING", desk(NONE, 0, INIT, 0), 9, MapDesk.STUCK, 2, 1, -1);
        dueRun("RET of an int", desk(CONST, 0, STORE, 0, RET, 0), 9, MapDesk.STUCK, 3, 2, -1);
        dueRun("RET behind the last", desk(GO, 3, STORE, 0, RET, 0, JSR, 1), 9, MapDesk.STUCK, 4, 4, -1);
        dueRun("RET of any LINK", desk(JSR, 1, STORE, 0, JSR, 4, RETURN, 0, POP, 0, RET, 0), 9, MapDesk.STUCK, 6, 1, -1);
        MapDesk x = desk(JSR, 2, RETURN, 0, STORE, 0, RET, 0);
        dueRun("JSR and RET", x, 9, MapDesk.RETURNED, 4, 1, -1);
        dueHeld("LINK to JSR 0", x, 51, 0, 0, 0);
        x = desk(GO, 2, RETURN, 0, JSR, 4, GO, 1, STORE, 3, RET, 3);
        dueRun("JSR at 2", x, 9, MapDesk.RETURNED, 6, 1, -1);
        dueHeld("LINK to JSR 2", x, 0, 0, 0, 53, -1);
        due("no int", x.held(3, true), 0);
        x = desk(CONST, GREATEST, CONST, 2, ADD, 0, CONST, 9, SWAP, 0, STORE, 0, STORE, 1, RETURN, 0);
        dueRun("ADD and SWAP", x, 20, MapDesk.RETURNED, 8, 7, -1);
        due("ADD wraps", x.held(0, true), LEAST + 1);
        due("SWAP", x.held(1, true), 9);
        dueRun("POP", desk(CONST, 1, CONST, 0, POP, 0, IF, 5, RETURN, 0, RETURN, 0), 20, MapDesk.RETURNED, 5, 5, -1);
    }

    static void runObjects() {
        MapDesk x = desk(MAKE, 6, DUP, 0, STORE, 2, DUP, 0, STORE, 1, INIT, 0, MAKE, 5, STORE, 0, RETURN, 0);
        dueRun("OBJECTS", x, 5, MapDesk.LONG, 5, 5, -1);
        dueHeld("not READY", x, 0, 17, 17, 0);
        dueRun("OBJECTS", x, 20, MapDesk.RETURNED, 9, 8, -1);
        dueHeld("READY, all that are the same", x, 16, 9, 9, 0);
        x = new MapDesk();
        x.enter(0, CLASS + 7);
        x.enter(1, CLASS + 7);
        x.enter(2, CLASS);
        x.enter(3, NULL);
        put(x, RETURN, 0);
        dueRun("LOCALS that begin", x, 20, MapDesk.RETURNED, 1, 0, -1);
        dueHeld("LOCALS that begin", x, 10, 10, 3, 2, -1, -1);
        x.kin(7, 5);
        x.kin(5, 3);
        put(x, LOAD, 0, CAST, 3, GIVE, 5);
        dueRun("CAST to an ancestor leaves the OBJECT, GIVE", x, 20, MapDesk.GIVEN, 3, 2, 7);
        put(x, NONE, 0, CAST, 3, GIVE, 5);
        dueRun("CAST of NOTHING, GIVE of NOTHING", x, 20, MapDesk.GIVEN, 3, 2, -1);
        put(x, LOAD, 2, GIVE, 5);
        dueRun("GIVE of another class", x, 20, MapDesk.STUCK, 2, 1, -1);
        put(x, MAKE, 5, GIVE, 5);
        dueRun("GIVE of one not READY", x, 20, MapDesk.STUCK, 2, 1, -1);
        put(x, CONST, 5, GIVE, 5);
        dueRun("GIVE of an int", x, 20, MapDesk.STUCK, 2, 1, -1);
        put(x, LOAD, 0, USE, 3, RETURN, 0);
        dueRun("USE", x, 20, MapDesk.RETURNED, 3, 2, -1);
        put(x, LOAD, 0, USE, 6, RETURN, 0);
        dueRun("USE of another class", x, 20, MapDesk.STUCK, 2, 1, -1);
        put(x, MAKE, 6, USE, 6, RETURN, 0);
        dueRun("USE of one not READY", x, 20, MapDesk.STUCK, 2, 1, -1);
        put(x, MAKE, 6, CAST, 6, RETURN, 0);
        dueRun("CAST of one not READY", x, 20, MapDesk.STUCK, 2, 1, -1);
        put(x, MAKE, 6, THROW, 6, RETURN, 0);
        dueRun("THROW of one not READY", x, 20, MapDesk.STUCK, 2, 1, -1);
        put(x, CONST, 6, THROW, 6, RETURN, 0);
        dueRun("THROW of an int", x, 20, MapDesk.STUCK, 2, 1, -1);
        put(x, MAKE, 1, POP, 0, GO, 0);
        dueRun("many OBJECTS", x, 200, MapDesk.LONG, 200, 2, -1);
    }

    static void runThrown() {
        MapDesk x = new MapDesk();
        x.enter(0, CLASS + 6);
        x.kin(6, 4);
        put(x, LOAD, 0, THROW, 0);
        dueRun("THROW", x, 20, MapDesk.THROWN, 2, 1, 6);
        put(x, NONE, 0, THROW, 0);
        dueRun("THROW of NOTHING", x, 20, MapDesk.THROWN, 2, 1, 2);
        put(x, NONE, 0, USE, 5, RETURN, 0);
        dueRun("USE of NOTHING", x, 20, MapDesk.THROWN, 2, 1, 2);
        put(x, LOAD, 0, CAST, 5, RETURN, 0);
        dueRun("CAST to another class", x, 20, MapDesk.THROWN, 2, 1, 1);
        put(x, LOAD, 0, CAST, 5, RETURN, 0);
        x.handler(0, 1, 2, 0);
        x.handler(2, 24, 2, 0);
        x.handler(1, 2, 2, 2);
        dueRun("no HANDLER covers it, or is of the class", x, 20, MapDesk.THROWN, 2, 1, 1);
        put(x, CONST, 1, CONST, 2, LOAD, 0, THROW, 0, RETURN, 0, STORE, 1, RETURN, 0, STORE, 2, POP, 0, RETURN, 0);
        x.handler(3, 4, 7, 5);
        x.handler(3, 4, 5, 4);
        x.handler(3, 4, 7, 6);
        dueRun("the first HANDLER that fits", x, 20, MapDesk.RETURNED, 6, 6, -1);
        dueHeld("the first HANDLER that fits", x, 9, 9, 0, 0);
        x.clear();
        put(x, CONST, 1, CONST, 2, LOAD, 0, THROW, 0, RETURN, 0, STORE, 1, RETURN, 0, STORE, 2, POP, 0, RETURN, 0);
        x.handler(0, 4, 7, 0);
        dueRun("the STACK has the OBJECT alone", x, 20, MapDesk.STUCK, 6, 8, -1);
        dueHeld("the STACK has the OBJECT alone", x, 9, 0, 9, 0);
        put(x, POP, 0, RETURN, 0, RETURN, 0);
        x.handler(0, 1, 2, 0);
        dueRun("STUCK goes to no HANDLER", x, 20, MapDesk.STUCK, 1, 0, -1);
        put(x, LOAD, 0, THROW, 0);
        x.handler(1, 2, 1, 6);
        dueRun("LONG in a HANDLER", x, 7, MapDesk.LONG, 7, 1, -1);
        put(x, NONE, 0, THROW, 0, CONST, 0, RETURN, 0);
        x.handler(1, 2, 2, 0);
        dueRun("LONG as it was caught", x, 2, MapDesk.LONG, 2, 2, -1);
    }

    /** Nothing of one RUN or layout shows in the next. */
    static void again() {
        MapDesk x = desk(MAKE, 1, POP, 0, GO, 0);
        for (int i = 0; i < 5; i++) {
            dueRun("many OBJECTS, again", x, 200, MapDesk.LONG, 200, 2, -1);
        }
        put(x, MAKE, 5, STORE, 1, MAKE, 6, STORE, 2, CONST, 8, STORE, 3, RETURN, 0);
        dueRun("OBJECTS after that", x, 200, MapDesk.RETURNED, 7, 6, -1);
        dueHeld("OBJECTS after that", x, 0, 16, 17, 1);
        put(x, RETURN, 0);
        x.enter(3, INT);
        dueRun("LOCALS begin anew", x, 200, MapDesk.RETURNED, 1, 0, -1);
        dueHeld("LOCALS begin anew", x, 0, 0, 0, 1);
        due("LOCALS begin anew with 0", x.held(3, true), 0);
        put(x, GO, 1, RETURN, 0);
        x.lay();
        due("MAP at 1", x.place(1, 6), 1);
        put(x, CONST, 0, RETURN, 0);
        x.lay();
        due("no MAP at 1 then", x.place(1, 6), 0);
        x.lay();
        due("lay twice", x.places(), 2);
    }

    static void endedAndHeld() {
        MapDesk x = desk(CONST, 77, STORE, 1, RETURN, 0);
        for (int what = -2; what < 5; what++) {
            due("ended(" + what + ") without a RUN", x.ended(what), -1);
        }
        due("held without a RUN", x.held(1, false), -1);
        due("held without a RUN, number", x.held(1, true), 0);
        x.run(9);
        for (int what : new int[] {LEAST, -1, 3, GREATEST}) {
            due("ended(" + what + ")", x.ended(what), -1);
        }
        for (int local : new int[] {LEAST, -1, 4, GREATEST}) {
            due("held(" + local + ")", x.held(local, false), -1);
            due("held(" + local + "), number", x.held(local, true), 0);
        }
        due("held int", x.held(1, false), 1);
        due("held int, number", x.held(1, true), 77);
        x.clear();
        x.enter(1, CLASS);
        x.kin(4, 3);
        x.lay();
        due("held stays", x.held(1, true), 77);
        due("ended stays", x.ended(0), 3);
        put(x, RETURN, 0);
        x.run(1);
        due("held of the latest RUN", x.held(1, false), 3);
        due("held of an OBJECT, number", x.held(1, true), 0);
    }

    static void orderAndLimits() {
        MapDesk x = new MapDesk();
        for (int i = 0; i < 24; i++) {
            x.add(RETURN, 0);
        }
        due("add: BAD before FULL", x.add(LOAD, 4), MapDesk.BAD);
        due("add: FULL", x.add(LOAD, 3), MapDesk.FULL);
        for (int i = 0; i < 4; i++) {
            x.handler(0, 1, 1, 0);
        }
        due("handler: BAD before FULL", x.handler(0, 1, 1, 8), MapDesk.BAD);
        due("handler: FULL", x.handler(0, 1, 1, 7), MapDesk.FULL);

        x = desk(CONST, 0, STORE, 0, GO, 0);
        x.enter(0, NULL);
        x.lay();
        due("the first place is found as TOP", x.type(0, 0), TOP);
        x.alter(0, 0, NULL);
        dueCheck("check begins with what LOCALS begin with", x, 2, MapDesk.JUMP);
        x.alter(0, 0, INT);
        dueCheck("check begins with what LOCALS begin with", x, 0, MapDesk.FALL);
    }

    public static void main(String[] args) {
        newObject();
        kin();
        enter();
        add();
        handler();
        clear();
        layBad();
        layTypes();
        wrongKinds();
        wrongMixed();
        manyPlaces();
        placesInOrder();
        maps();
        joins();
        typesFound();
        alter();
        checkReasons();
        checkCaught();
        checkNew();
        checkLinks();
        runBad();
        runSteps();
        runObjects();
        runThrown();
        again();
        endedAndHeld();
        orderAndLimits();
        end();
    }
}
