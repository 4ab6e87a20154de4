/** Any calls in any order, with near and far numbers: none fails, and each answers what the Model answers. */
public final class CallsTest {
    private static final int DESKS = 4000;
    private static final int CALLS = 512;
    private static final int[] FAR = {Integer.MIN_VALUE, Integer.MIN_VALUE + 1, Integer.MAX_VALUE - 1, Integer.MAX_VALUE, -2, -1, 24, 40, 91, 200, 201};

    private static int some(Methods methods, int bound) {
        return methods.once(12) ? FAR[methods.below(FAR.length)] : methods.below(bound);
    }

    private static int of(boolean answer) {
        return answer ? 1 : 0;
    }

    /** The answers of both, one in each half. */
    private static long call(int which, int[] n, MapDesk x, Model y) {
        switch (which) {
            case 0: return both(of(x.kin(n[0] % 8, n[1] % 4)), of(y.kin(n[0] % 8, n[1] % 4)));
            case 1: return both(of(x.enter(n[0] % 5, n[1])), of(y.enter(n[0] % 5, n[1])));
            case 2: return both(x.handler(n[0], n[1], n[2], n[3]), y.handler(n[0], n[1], n[2], n[3]));
            case 3: return both(x.clear(), y.clear());
            case 4: case 5: return both(x.lay(), y.lay());
            case 6: return both(x.wrong(n[0]), y.wrong(n[0]));
            case 7: return both(x.places(), y.places());
            case 8: return both(x.place(n[0], n[1]), y.place(n[0], n[1]));
            case 9: return both(x.type(n[0], n[1]), y.type(n[0], n[1]));
            case 10: return both(x.map(n[0], n[1]), y.map(n[0], n[1]));
            case 11: return both(of(x.alter(n[0], n[1], n[4])), of(y.alter(n[0], n[1], n[4])));
            case 12: return both(x.check(), y.check());
            case 13: return both(x.reason(), y.reason());
            case 14: return both(x.run(n[4]), y.run(n[4]));
            case 15: return both(x.ended(n[1]), y.ended(n[1]));
            case 16: return both(x.held(n[0], true), y.held(n[0], true));
            case 17: return both(x.held(n[0], false), y.held(n[0], false));
            default: return both(x.add(n[5], n[0]), y.add(n[5], n[0]));
        }
    }

    private static long both(int one, int two) {
        return (long) one << 32 | two & 0xFFFFFFFFL;
    }

    public static void main(String[] args) {
        int failures = 0;
        for (long seed = 1; seed <= DESKS; seed++) {
            Methods methods = new Methods(-seed);
            MapDesk x = new MapDesk();
            Model y = new Model();
            for (int i = 0; i < CALLS; i++) {
                int[] n = {some(methods, 7), some(methods, 12), some(methods, 5), some(methods, 9), some(methods, 95), some(methods, 20)};
                int which = methods.below(22);
                // Seldom, so that methods grow.
                which = which == 3 && !methods.once(6) ? 18 : which;
                long answers = call(which, n, x, y);
                if ((int) (answers >> 32) != (int) answers && failures++ < 20) {
                    System.out.println("seed " + -seed + ", call " + i + ", which is " + which + " " + java.util.Arrays.toString(n)
                        + ", answered " + (answers >> 32) + ", the model " + (int) answers);
                }
            }
        }
        System.out.println(failures + " answers are not those of the model");
        if (failures != 0) {
            System.exit(1);
        }
    }
}
