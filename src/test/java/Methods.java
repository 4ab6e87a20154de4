/**
 * Makes methods, always the same ones for the same seed. They are made of blocks, which begin plain, as a subroutine
 * or as a HANDLER; most instructions find what they need, and most jumps lead where the stack is alike.
 */
final class Methods {
    /** More often than others: what makes and moves values, and what jumps. */
    private static final int[] LIKELY = {
        0, 0, 1, 1, 2, 2, 2, 3, 3, 3, 3, 4, 5, 6, 7, 8, 8, 9, 9, 9, 10, 11, 11, 12, 13, 13, 14, 14, 15, 15, 15, 16, 16, 16, 16, 17, 18, 19};

    private long state;
    private int n;
    private int[] ops;
    private int[] locals;
    /** The stack with which an instruction begins, a letter a value: I int, R reference, N new, L link. */
    private String[] stacks;
    private char[] held;

    Methods(long seed) {
        state = seed * 0x9E3779B97F4A7C15L + 1;
    }

    int below(int bound) {
        state = state * 6364136223846793005L + 1442695040888963407L;
        return (int) ((state >>> 33) % bound);
    }

    boolean once(int in) {
        return below(in) == 0;
    }

    /** The ops and as, one pair after another; the LOCALS begin with these types. */
    int[] next(int[] begin) {
        if (once(6)) {
            return withManyCalls();
        }
        n = once(4) ? 24 : 2 + below(18);
        ops = new int[n];
        locals = new int[n];
        stacks = new String[n];
        held = new char[4];
        for (int i = 0; i < 4; i++) {
            held[i] = begin[i] == 0 ? 'T' : begin[i] == 1 ? 'I' : 'R';
        }
        String now = "";
        for (int i = 0; i < n; i++) {
            stacks[i] = now;
            choose(i);
            now = after(i);
            if (!Model.falls(ops[i]) && ops[i] != 15) {
                now = new String[] {"", "L", "L", "L", "L", "R"}[below(6)];
            }
        }
        return pairs();
    }

    /** Calls of up to three subroutines, which may call those behind them: many places. */
    private int[] withManyCalls() {
        int calls = 1 + below(8);
        int subs = 1 + below(3);
        int[] starts = new int[subs];
        int size = 5;
        n = calls + 1 + subs * size;
        stacks = new String[n];
        java.util.Arrays.fill(stacks, "");
        for (int i = 0; i < subs; i++) {
            starts[i] = calls + 1 + i * size;
            stacks[starts[i]] = "L";
        }
        int[] pairs = new int[2 * n];
        for (int i = 0; i < calls; i++) {
            set(pairs, i, 15, starts[below(subs)]);
        }
        set(pairs, calls, 17, 0);
        for (int i = 0; i < subs; i++) {
            int at = starts[i];
            set(pairs, at, 3, i);
            if (i + 1 < subs && !once(3)) {
                set(pairs, at + 1, 15, starts[i + 1]);
            } else {
                set(pairs, at + 1, 12, at + 2);
            }
            set(pairs, at + 2, once(2) ? 0 : 8, below(8));
            set(pairs, at + 3, 3, once(9) ? i : 3);
            set(pairs, at + 4, once(9) ? 17 : 16, i);
        }
        return pairs;
    }

    private static void set(int[] pairs, int i, int op, int a) {
        pairs[2 * i] = op;
        pairs[2 * i + 1] = a;
    }

    private void choose(int i) {
        ops[i] = 17;
        boolean last = i == n - 1 && !once(6);
        for (int tries = 0; tries < 12; tries++) {
            int op = last ? 16 + below(4) : LIKELY[below(LIKELY.length)];
            int local = below(4);
            int height = stacks[i].length() - Model.takes(op) + Model.puts(op);
            boolean finds = findsNeeds(op, local, stacks[i]) || once(40);
            if (height <= (once(8) ? 6 : 3) && stacks[i].length() >= Model.takes(op) && finds) {
                ops[i] = op;
                locals[i] = local;
                return;
            }
        }
    }

    private boolean findsNeeds(int op, int local, String stack) {
        char top = stack.isEmpty() ? '-' : stack.charAt(stack.length() - 1);
        switch (op) {
            case 2: return held[local] != 'T' && held[local] != 'L';
            case 7: return stack.endsWith("II");
            case 9: return top == 'N';
            case 10: case 11: case 14: case 18: case 19: return top == 'R';
            case 13: return top == 'I';
            case 16: return held[local] == 'L';
            default: return true;
        }
    }

    private String after(int i) {
        String stack = stacks[i];
        int op = ops[i];
        int left = stack.length() - Model.takes(op);
        String rest = stack.substring(0, left);
        String taken = stack.substring(left);
        switch (op) {
            case 0: case 7: return rest + "I";
            case 1: case 10: return rest + "R";
            case 2: return rest + held[locals[i]];
            case 3: held[locals[i]] = taken.charAt(0); return rest;
            case 5: return rest + taken + taken;
            case 6: return rest + taken.charAt(1) + taken.charAt(0);
            case 8: return rest + "N";
            default: return rest;
        }
    }

    private int target(int from) {
        int op = ops[from];
        String want = stacks[from].substring(0, stacks[from].length() - Math.min(stacks[from].length(), Model.takes(op)));
        want = op == 15 ? want + "L" : want;
        int a = below(n);
        // Subroutines that lie behind their JSR do not call themselves.
        for (int tries = 0; tries < 60 && !(stacks[a].equals(want) && (op != 15 || a > from)); tries++) {
            a = below(n);
        }
        return once(300) ? below(24) : a;
    }

    /** An instruction that a HANDLER may well lead to. */
    int caughtAt() {
        int a = below(n);
        for (int tries = 0; tries < 20 && !stacks[a].equals("R"); tries++) {
            a = below(n);
        }
        return a;
    }

    private int[] pairs() {
        int[] pairs = new int[2 * n];
        for (int i = 0; i < n; i++) {
            int op = once(150) ? below(20) : ops[i];
            int a = locals[i];
            if (op >= 12 && op <= 15) {
                a = target(i);
            } else if (op == 0) {
                a = once(2) ? 0 : below(5) - 2;
            } else if (op >= 8 && op != 16) {
                a = once(3) ? 0 : below(8);
            }
            set(pairs, i, op, a);
        }
        return pairs;
    }
}
