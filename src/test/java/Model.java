import java.util.ArrayDeque;
import java.util.ArrayList;
import java.util.Comparator;
import java.util.Deque;
import java.util.HashMap;
import java.util.HashSet;
import java.util.LinkedHashSet;
import java.util.List;
import java.util.Map;
import java.util.Set;
import java.util.TreeMap;
import java.util.TreeSet;

/** The document said a second time, with the Java library and without its limits, to compare MapDesk with. */
final class Model {
    record Code(int op, int a) { }
    record Cover(int from, int to, int target, int c) { }
    record Place(List<Integer> calls, int at) { }
    record State(Place place, int depth) { }
    record Link(int jsr) { }
    static final class Thing {
        final int c;
        boolean ready;
        Thing(int c, boolean ready) {
            this.c = c;
            this.ready = ready;
        }
    }
    /** Types from the lowest LOCAL to the top of the STACK, or null where there is no FRAME. */
    static final class Frame extends ArrayList<Integer> {
        private static final long serialVersionUID = 1;
        Frame(List<Integer> other) {
            super(other);
        }
        int pop() {
            return remove(size() - 1);
        }
    }

    static final String[] EFFECT = {
        "0>1", "0>1", "0>1", "1>0", "1>0", "1>2", "2>2", "2>1", "0>1", "1>0",
        "1>1", "1>0", "0>0", "1>0", "1>0", "0>1", "0>0", "0>0", "1>0", "1>0"};
    static final Object NOTHING = "nothing";
    static final Comparator<Place> ORDER = (x, y) -> {
        if (x.calls.size() != y.calls.size()) {
            return x.calls.size() - y.calls.size();
        }
        for (int i = 0; i < x.calls.size(); i++) {
            if (!x.calls.get(i).equals(y.calls.get(i))) {
                return x.calls.get(i) - y.calls.get(i);
            }
        }
        return x.at - y.at;
    };

    final int[] parent = new int[8];
    final int[] begin = new int[4];
    final List<Code> codes = new ArrayList<>();
    final List<Cover> covers = new ArrayList<>();

    List<Place> laid = new ArrayList<>();
    Map<Place, Integer> depths = new HashMap<>();
    Map<Place, Frame> found = null;
    Map<Place, Frame> maps = new HashMap<>();
    Place wrongPlace = null;
    int wrongKind = -1;
    int lastReason = 0;

    boolean ran = false;
    int begun, at, endClass;
    Object[] locals;

    static int takes(int op) {
        return EFFECT[op].charAt(0) - '0';
    }

    static int puts(int op) {
        return EFFECT[op].charAt(2) - '0';
    }

    static boolean falls(int op) {
        return op <= 11 || op == 13 || op == 14;
    }

    // ---- the method ----

    void end() {
        laid = new ArrayList<>();
    }

    boolean kin(int c, int p) {
        boolean good = 1 <= c && c <= 7 && 0 <= p && p < c;
        if (good) {
            parent[c] = p;
            end();
        }
        return good;
    }

    boolean enter(int local, int type) {
        boolean good = 0 <= local && local <= 3 && 0 <= type && type <= 10;
        if (good) {
            begin[local] = type;
            end();
        }
        return good;
    }

    int add(int op, int a) {
        if (op < 0 || op > 19) {
            return -1;
        }
        int limit = limitOf(op);
        if (limit >= 0 && (a < 0 || a > limit)) {
            return -1;
        }
        if (codes.size() == 24) {
            return -2;
        }
        codes.add(new Code(op, a));
        end();
        return codes.size();
    }

    private static int limitOf(int op) {
        if (op == 2 || op == 3 || op == 16) {
            return 3;
        }
        if (op == 8 || op == 10 || op == 11 || op == 18) {
            return 7;
        }
        return 12 <= op && op <= 15 ? 23 : -1;
    }

    int handler(int from, int to, int target, int c) {
        if (!(0 <= from && from < to && to <= 24 && 0 <= target && target <= 23 && 0 <= c && c <= 7)) {
            return -1;
        }
        if (covers.size() == 4) {
            return -2;
        }
        covers.add(new Cover(from, to, target, c));
        end();
        return covers.size();
    }

    int clear() {
        int were = codes.size();
        codes.clear();
        covers.clear();
        end();
        return were;
    }

    boolean bad() {
        int n = codes.size();
        return n == 0
            || codes.stream().anyMatch(i -> 12 <= i.op && i.op <= 15 && i.a >= n)
            || covers.stream().anyMatch(h -> h.target >= n);
    }

    // ---- where places lead ----

    /** null if it does not jump. */
    Place jump(Place from) {
        Code i = codes.get(from.at);
        List<Integer> calls = new ArrayList<>(from.calls);
        if (12 <= i.op && i.op <= 14) {
            return new Place(calls, i.a);
        }
        if (i.op == 15) {
            calls.add(from.at);
            return new Place(calls, i.a);
        }
        if (i.op == 16) {
            int jsr = calls.remove(calls.size() - 1);
            return new Place(calls, jsr + 1);
        }
        return null;
    }

    Place behind(Place from) {
        return falls(codes.get(from.at).op) ? new Place(from.calls, from.at + 1) : null;
    }

    List<Cover> coversOf(int i) {
        return covers.stream().filter(h -> h.from <= i && i < h.to).toList();
    }

    Set<Integer> faults(State s) {
        Set<Integer> all = new TreeSet<>();
        Code i = codes.get(s.place.at);
        List<Integer> calls = s.place.calls;
        boolean returns = i.op == 16 && !calls.isEmpty();
        if (falls(i.op) && s.place.at + 1 == codes.size()
            || returns && calls.get(calls.size() - 1) + 1 == codes.size()) {
            all.add(1);
        }
        if (s.depth < takes(i.op)) {
            all.add(2);
        }
        if (s.depth - takes(i.op) + puts(i.op) > 6) {
            all.add(3);
        }
        if (i.op == 15 && (calls.contains(s.place.at) || calls.size() == 3)) {
            all.add(4);
        }
        if (i.op == 16 && calls.isEmpty()) {
            all.add(5);
        }
        return all;
    }

    // ---- lay ----

    int lay() {
        end();
        lastReason = 0;
        wrongKind = -1;
        wrongPlace = null;
        found = null;
        if (bad()) {
            return -1;
        }
        Set<State> states = new LinkedHashSet<>();
        Deque<State> toDo = new ArrayDeque<>();
        toDo.push(new State(new Place(List.of(), 0), 0));
        TreeMap<Place, TreeSet<Integer>> wrongs = new TreeMap<>(ORDER);
        TreeMap<Place, TreeSet<Integer>> come = new TreeMap<>(ORDER);
        while (!toDo.isEmpty()) {
            State s = toDo.pop();
            if (!states.add(s)) {
                continue;
            }
            come.computeIfAbsent(s.place, p -> new TreeSet<>()).add(s.depth);
            Set<Integer> faults = faults(s);
            if (!faults.isEmpty()) {
                wrongs.computeIfAbsent(s.place, p -> new TreeSet<>()).addAll(faults);
                continue;
            }
            int op = codes.get(s.place.at).op;
            int after = s.depth - takes(op) + puts(op);
            for (Place next : new Place[] {jump(s.place), behind(s.place)}) {
                if (next != null) {
                    toDo.push(new State(next, after));
                }
            }
            for (Cover h : coversOf(s.place.at)) {
                toDo.push(new State(new Place(s.place.calls, h.target), 1));
            }
        }
        come.forEach((place, numbers) -> {
            if (numbers.size() > 1) {
                wrongs.computeIfAbsent(place, p -> new TreeSet<>()).add(6);
            }
        });
        if (come.size() > 40) {
            wrongKind = 7;
            return 1;
        }
        if (!wrongs.isEmpty()) {
            wrongPlace = wrongs.firstKey();
            wrongKind = wrongs.firstEntry().getValue().first();
            return 1;
        }
        laid = new ArrayList<>(come.keySet());
        depths = new HashMap<>();
        come.forEach((place, numbers) -> depths.put(place, numbers.first()));
        found = findTypes();
        keepMaps();
        return found == null ? 2 : 0;
    }

    private Map<Place, Frame> findTypes() {
        Map<Place, Frame> frames = new HashMap<>();
        Deque<Place> toDo = new ArrayDeque<>();
        give(frames, toDo, laid.get(0), beginFrame());
        while (!toDo.isEmpty()) {
            Place from = toDo.pop();
            Frame before = frames.get(from);
            Frame after = made(from, before);
            if (after == null) {
                return null;
            }
            for (Place next : new Place[] {behind(from), jump(from)}) {
                if (next != null) {
                    give(frames, toDo, next, after);
                }
            }
            for (Cover h : coversOf(from.at)) {
                Frame caught = new Frame(before.subList(0, 4));
                caught.add(3 + h.c);
                give(frames, toDo, new Place(from.calls, h.target), caught);
            }
        }
        return frames;
    }

    private void give(Map<Place, Frame> frames, Deque<Place> toDo, Place to, Frame given) {
        Frame had = frames.get(to);
        Frame joined = new Frame(given);
        for (int i = 0; had != null && i < given.size(); i++) {
            joined.set(i, join(had.get(i), given.get(i)));
        }
        if (!joined.equals(had)) {
            frames.put(to, joined);
            toDo.push(to);
        }
    }

    private void keepMaps() {
        maps = new HashMap<>();
        Set<Place> targets = new HashSet<>();
        for (Place from : laid) {
            targets.add(jump(from));
            coversOf(from.at).forEach(h -> targets.add(new Place(from.calls, h.target)));
        }
        targets.remove(null);
        for (Place to : targets) {
            Frame kept = new Frame(found != null ? found.get(to) : List.of());
            while (kept.size() < 4 + depths.get(to)) {
                kept.add(0);
            }
            maps.put(to, kept);
        }
    }

    Frame beginFrame() {
        return new Frame(List.of(begin[0], begin[1], begin[2], begin[3]));
    }

    // ---- types ----

    Set<Integer> ancestors(int c) {
        Set<Integer> all = new HashSet<>();
        for (int up = c; up > 0; ) {
            up = parent[up];
            all.add(up);
        }
        return all;
    }

    static boolean isClass(int type) {
        return 3 <= type && type <= 10;
    }

    boolean fits(int one, int two) {
        return one == two || two == 0 || one == 2 && isClass(two)
            || isClass(one) && isClass(two) && ancestors(one - 3).contains(two - 3);
    }

    int join(int one, int two) {
        if (fits(one, two)) {
            return two;
        }
        if (fits(two, one)) {
            return one;
        }
        if (isClass(one) && isClass(two)) {
            Set<Integer> both = ancestors(one - 3);
            both.retainAll(ancestors(two - 3));
            return 3 + both.stream().max(Comparator.naturalOrder()).get();
        }
        return 0;
    }

    /** What the instruction makes of a FRAME; null if the types are not as needed. */
    Frame made(Place place, Frame before) {
        int k = laid.indexOf(place);
        Code i = codes.get(place.at);
        Frame f = new Frame(before);
        int one = takes(i.op) > 0 ? f.pop() : -1;
        int two = takes(i.op) > 1 ? f.pop() : -1;
        boolean reference = one == 2 || isClass(one);
        switch (i.op) {
            case 0 -> f.add(1);
            case 1 -> f.add(2);
            case 2 -> {
                int type = f.get(i.a);
                if (type == 0 || type >= 51) {
                    return null;
                }
                f.add(type);
            }
            case 3 -> f.set(i.a, one);
            case 5 -> f.addAll(List.of(one, one));
            case 6 -> f.addAll(List.of(one, two));
            case 7 -> {
                if (one != 1 || two != 1) {
                    return null;
                }
                f.add(1);
            }
            case 8 -> {
                if (f.subList(4, f.size()).contains(11 + k)) {
                    return null;
                }
                f.replaceAll(type -> type == 11 + k ? 0 : type);
                f.add(11 + k);
            }
            case 9 -> {
                int p = one - 11;
                if (p < 0 || p >= laid.size() || codes.get(laid.get(p).at).op != 8) {
                    return null;
                }
                int made = 3 + codes.get(laid.get(p).at).a;
                f.replaceAll(type -> type == one ? made : type);
            }
            case 10 -> {
                if (!reference) {
                    return null;
                }
                f.add(3 + i.a);
            }
            case 11, 18 -> {
                return fits(one, 3 + i.a) ? f : null;
            }
            case 13 -> {
                return one == 1 ? f : null;
            }
            case 14, 19 -> {
                return reference ? f : null;
            }
            case 15 -> f.add(51 + k);
            case 16 -> {
                List<Integer> calls = new ArrayList<>(place.calls);
                int jsr = calls.remove(calls.size() - 1);
                return f.get(i.a) == 51 + laid.indexOf(new Place(calls, jsr)) ? f : null;
            }
            default -> { }
        }
        return f;
    }

    // ---- what is laid out ----

    int what(Place p, int what) {
        if (what == 2) {
            return p.calls.size();
        }
        return 3 <= what && what < 3 + p.calls.size() ? p.calls.get(what - 3) : -1;
    }

    int wrong(int what) {
        if (what == 0) {
            return wrongKind;
        }
        if (wrongPlace == null) {
            return -1;
        }
        return what == 1 ? wrongPlace.at : what(wrongPlace, what);
    }

    int places() {
        return laid.size();
    }

    int place(int k, int what) {
        if (k < 0 || k >= laid.size()) {
            return -1;
        }
        Place p = laid.get(k);
        return switch (what) {
            case 0 -> p.at;
            case 1 -> depths.get(p);
            case 6 -> maps.containsKey(p) ? 1 : 0;
            default -> what(p, what);
        };
    }

    static int slotOf(Frame f, int slot) {
        return f == null || slot < 0 || slot >= f.size() ? -1 : f.get(slot);
    }

    int type(int k, int slot) {
        return found == null || k < 0 || k >= laid.size() ? -1 : slotOf(found.get(laid.get(k)), slot);
    }

    int map(int k, int slot) {
        return k < 0 || k >= laid.size() ? -1 : slotOf(maps.get(laid.get(k)), slot);
    }

    boolean alter(int k, int slot, int type) {
        if (map(k, slot) < 0 || type < 0 || type > 90) {
            return false;
        }
        maps.get(laid.get(k)).set(slot, type);
        return true;
    }

    // ---- check ----

    boolean allFit(List<Integer> given, Frame map) {
        for (int i = 0; i < given.size(); i++) {
            if (!fits(given.get(i), map.get(i))) {
                return false;
            }
        }
        return given.size() == map.size();
    }

    int check() {
        lastReason = 0;
        if (laid.isEmpty()) {
            return -2;
        }
        Frame now = beginFrame();
        for (Place p : laid) {
            Frame map = maps.get(p);
            if (map != null) {
                if (now != null && !allFit(now, map)) {
                    lastReason = 1;
                    return laid.indexOf(p);
                }
                now = map;
            }
            for (Cover h : coversOf(p.at)) {
                Frame caught = new Frame(now.subList(0, 4));
                caught.add(3 + h.c);
                if (!allFit(caught, maps.get(new Place(p.calls, h.target)))) {
                    lastReason = 2;
                    return laid.indexOf(p);
                }
            }
            Frame after = made(p, now);
            if (after == null || jump(p) != null && !allFit(after, maps.get(jump(p)))) {
                lastReason = after == null ? 3 : 4;
                return laid.indexOf(p);
            }
            now = behind(p) != null ? after : null;
        }
        return -1;
    }

    int reason() {
        return lastReason;
    }

    // ---- run ----

    boolean isOf(Thing thing, int c) {
        return thing.c == c || ancestors(thing.c).contains(c);
    }

    int run(int most) {
        if (most < 1 || most > 200 || bad()) {
            return -1;
        }
        ran = true;
        begun = 0;
        at = 0;
        endClass = -1;
        locals = new Object[4];
        for (int i = 0; i < 4; i++) {
            int type = begin[i];
            locals[i] = type == 0 ? null : type == 1 ? (Object) 0 : type == 2 ? NOTHING : new Thing(type - 3, true);
        }
        List<Object> stack = new ArrayList<>();
        while (true) {
            if (at >= codes.size()) {
                return 4;
            }
            if (begun == most) {
                return 3;
            }
            begun++;
            int how = one(codes.get(at), stack);
            if (how >= 0) {
                return how;
            }
        }
    }

    /** How the RUN ends with this instruction, or -1. */
    private int one(Code i, List<Object> stack) {
        if (stack.size() < takes(i.op) || stack.size() - takes(i.op) + puts(i.op) > 6) {
            return 4;
        }
        Object top = takes(i.op) > 0 ? stack.remove(stack.size() - 1) : null;
        Object low = takes(i.op) > 1 ? stack.remove(stack.size() - 1) : null;
        boolean reference = top == NOTHING || top instanceof Thing t && t.ready;
        boolean asClass = reference && (top == NOTHING || isOf((Thing) top, i.a));
        boolean needs = switch (i.op) {
            case 2 -> locals[i.a] != null && !(locals[i.a] instanceof Link);
            case 7 -> top instanceof Integer && low instanceof Integer;
            case 9 -> top instanceof Thing t && !t.ready;
            case 10, 14, 19 -> reference;
            case 11, 18 -> asClass;
            case 13 -> top instanceof Integer;
            case 16 -> locals[i.a] instanceof Link;
            default -> true;
        };
        if (!needs) {
            return 4;
        }
        int from = at;
        at++;
        switch (i.op) {
            case 0 -> stack.add(i.a);
            case 1 -> stack.add(NOTHING);
            case 2 -> stack.add(locals[i.a]);
            case 3 -> locals[i.a] = top;
            case 5 -> stack.addAll(List.of(top, top));
            case 6 -> stack.addAll(List.of(top, low));
            case 7 -> stack.add((Integer) top + (Integer) low);
            case 8 -> stack.add(new Thing(i.a, false));
            case 9 -> ((Thing) top).ready = true;
            case 10 -> {
                if (!asClass) {
                    return thrown(from, new Thing(1, true), stack);
                }
                stack.add(top);
            }
            case 11, 19 -> {
                if (top == NOTHING || i.op == 19) {
                    return thrown(from, top == NOTHING ? new Thing(2, true) : (Thing) top, stack);
                }
            }
            case 12 -> at = i.a;
            case 13 -> at = (Integer) top != 0 ? i.a : at;
            case 14 -> at = top == NOTHING ? i.a : at;
            case 15 -> {
                stack.add(new Link(from));
                at = i.a;
            }
            case 16 -> at = ((Link) locals[i.a]).jsr + 1;
            case 17, 18 -> {
                at = from;
                endClass = top instanceof Thing t ? t.c : -1;
                return i.op == 17 ? 0 : 1;
            }
            default -> { }
        }
        return -1;
    }

    private int thrown(int from, Thing thing, List<Object> stack) {
        for (Cover h : coversOf(from)) {
            if (isOf(thing, h.c)) {
                stack.clear();
                stack.add(thing);
                at = h.target;
                return -1;
            }
        }
        at = from;
        endClass = thing.c;
        return 2;
    }

    int ended(int what) {
        return !ran || what < 0 || what > 2 ? -1 : what == 0 ? begun : what == 1 ? at : endClass;
    }

    int held(int local, boolean number) {
        if (!ran || local < 0 || local > 3) {
            return number ? 0 : -1;
        }
        Object value = locals[local];
        if (number) {
            return value instanceof Integer i ? i : 0;
        }
        if (value instanceof Thing t) {
            return (t.ready ? 3 : 11) + t.c;
        }
        if (value instanceof Link l) {
            return 51 + l.jsr;
        }
        return value == null ? 0 : value == NOTHING ? 2 : 1;
    }
}
