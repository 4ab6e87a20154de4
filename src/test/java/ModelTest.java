/** Compares every answer of MapDesk with that of the Model, over many made methods, and sees that check is sound. */
public final class ModelTest {
    private static final int RUNS = 100000;
    private static final int FAR = 12;
    private static final int ASKED = 36;
    private static int failures = 0;
    private static final int[] lays = new int[4];
    private static final int[] wrongs = new int[8];
    private static final int[] reasons = new int[5];
    private static final int[] ends = new int[6];
    private static final int[] sizes = new int[5];

    private static void same(long seed, String what, int got, int want) {
        if (got != want && failures++ < 20) {
            System.out.println("seed " + seed + ": " + what + " answered " + got + ", the model " + want);
        }
    }

    private static void same(long seed, String what, boolean got, boolean want) {
        same(seed, what, got ? 1 : 0, want ? 1 : 0);
    }

    private static void say(long seed, Methods methods, MapDesk desk, Model model) {
        for (int i = methods.below(6); i > 0; i--) {
            int c = methods.below(9);
            int p = methods.below(c + 1);
            same(seed, "kin", desk.kin(c, p), model.kin(c, p));
        }
        for (int local = 0; local < 4; local++) {
            int type = methods.once(3) ? 0 : methods.below(12);
            same(seed, "enter", desk.enter(local, type), model.enter(local, type));
        }
        int[] pairs = methods.next(model.begin);
        for (int i = 0; i < pairs.length; i += 2) {
            same(seed, "add", desk.add(pairs[i], pairs[i + 1]), model.add(pairs[i], pairs[i + 1]));
        }
        int n = pairs.length / 2;
        for (int i = methods.once(2) ? methods.below(3) : 0; i > 0; i--) {
            int from = methods.below(n);
            int to = from + methods.below(4);
            int target = methods.caughtAt();
            int c = methods.once(2) ? methods.below(3) : methods.below(8);
            same(seed, "handler", desk.handler(from, to, target, c), model.handler(from, to, target, c));
        }
    }

    /** Asks some of what may be asked: all of it would be more calls than a desk is used for. */
    private static void compareLaid(long seed, Methods methods, MapDesk desk, Model model) {
        same(seed, "places()", desk.places(), model.places());
        int what = methods.below(9) - 1;
        same(seed, "wrong(" + what + ")", desk.wrong(what), model.wrong(what));
        for (int asked = 0; asked < ASKED; asked++) {
            int k = methods.below(model.places() + 2) - 1;
            int i = methods.below(FAR + 1) - 1;
            switch (methods.below(3)) {
                case 0:
                    same(seed, "place(" + k + ", " + i + ")", desk.place(k, i), model.place(k, i));
                    break;
                case 1:
                    same(seed, "type(" + k + ", " + i + ")", desk.type(k, i), model.type(k, i));
                    break;
                default:
                    same(seed, "map(" + k + ", " + i + ")", desk.map(k, i), model.map(k, i));
                    break;
            }
        }
    }

    private static void compareCheck(long seed, MapDesk desk, Model model) {
        int got = desk.check();
        same(seed, "check()", got, model.check());
        same(seed, "reason()", desk.reason(), model.reason());
        reasons[desk.reason()]++;
    }

    private static void compareRun(long seed, Methods methods, MapDesk desk, Model model) {
        int most = methods.once(3) ? methods.below(12) : 200;
        int got = desk.run(most);
        same(seed, "run(" + most + ")", got, model.run(most));
        ends[got + 1]++;
        for (int i = -1; i < 5; i++) {
            same(seed, "ended(" + i + ")", desk.ended(i), model.ended(i));
            same(seed, "held(" + i + ", false)", desk.held(i, false), model.held(i, false));
            same(seed, "held(" + i + ", true)", desk.held(i, true), model.held(i, true));
        }
    }

    private static int typeFor(Methods methods, Model model) {
        int places = Math.max(1, model.places());
        switch (methods.below(4)) {
            case 0: return methods.below(93) - 1;
            case 1: return methods.below(11);
            case 2: return 11 + methods.below(places);
            default: return methods.once(2) ? 0 : 51 + methods.below(places);
        }
    }

    /** Alters a slot, mostly of a place that has a MAP. */
    private static void alterOne(long seed, Methods methods, MapDesk desk, Model model) {
        int k = methods.below(model.places() + 1);
        for (int tries = 0; tries < 10 && model.place(k, 6) != 1; tries++) {
            k = methods.below(model.places() + 1);
        }
        int slot = methods.below(methods.once(2) ? 4 : 7);
        int type = typeFor(methods, model);
        same(seed, "alter(" + k + ", " + slot + ", " + type + ")", desk.alter(k, slot, type), model.alter(k, slot, type));
    }

    private static void compare(long seed, MapDesk desk, Model model) {
        Methods methods = new Methods(seed);
        same(seed, "clear()", desk.clear(), model.clear());
        say(seed, methods, desk, model);
        if (methods.once(2)) {
            compareRun(seed, methods, desk, model);
        }
        int got = desk.lay();
        same(seed, "lay()", got, model.lay());
        lays[got + 1]++;
        sizes[(model.places() + 9) / 10]++;
        wrongs[Math.max(0, desk.wrong(0))]++;
        for (int what = -1; what < 8; what++) {
            same(seed, "wrong(" + what + ")", desk.wrong(what), model.wrong(what));
        }
        compareLaid(seed, methods, desk, model);
        compareCheck(seed, desk, model);
        compareRun(seed, methods, desk, model);
        boolean stuck = desk.run(200) == MapDesk.STUCK;
        model.run(200);
        dueSound(seed, got, stuck, desk);
        for (int i = 0; i < 6 && model.places() > 0; i++) {
            alterOne(seed, methods, desk, model);
            compareCheck(seed, desk, model);
            if (desk.check() == -1) {
                dueSound(seed, got, stuck, desk);
            }
        }
        compareLaid(seed, methods, desk, model);
        if (methods.once(4)) {
            same(seed, "add", desk.add(17, 0), model.add(17, 0));
            same(seed, "reason()", desk.reason(), model.reason());
            compareLaid(seed, methods, desk, model);
            compareCheck(seed, desk, model);
        }
    }

    /** Where types were found they pass; where MAPS pass, types were found, and no RUN is STUCK. */
    private static void dueSound(long seed, int laid, boolean stuck, MapDesk desk) {
        boolean passed = desk.check() == -1;
        same(seed, "OK and passed", passed, laid == MapDesk.OK);
        same(seed, "passed and STUCK", passed && stuck, false);
    }

    private static void dueOften(String what, int[] counts, int first, int least) {
        System.out.println(what + " " + java.util.Arrays.toString(counts));
        for (int i = first; i < counts.length; i++) {
            if (counts[i] < least) {
                failures++;
                System.out.println(what + " " + i + " came too seldom: " + counts[i]);
            }
        }
    }

    public static void main(String[] args) {
        MapDesk desk = new MapDesk();
        Model model = new Model();
        for (long seed = 1; seed <= RUNS; seed++) {
            // Two methods share a desk, so that what the first leaves behind would show.
            if (seed % 2 == 0) {
                desk = new MapDesk();
                model = new Model();
            }
            compare(seed, desk, model);
        }
        dueOften("lay -1..2", lays, 0, 100);
        dueOften("places 0, ..10, ..20, ..30, ..40", sizes, 0, 100);
        dueOften("wrong", wrongs, 1, 100);
        dueOften("reason", reasons, 0, 100);
        dueOften("run -1..4", ends, 0, 100);
        System.out.println(failures + " answers are not those of the model");
        if (failures != 0) {
            System.exit(1);
        }
    }
}
