import java.util.ArrayList;
import java.util.List;
import java.util.TreeMap;
import java.util.regex.Matcher;
import java.util.regex.Pattern;

/** The document told a second time, as slowly and plainly as possible, to test the program by. */
final class Model {
    record Step(int kind, int target, int one, int two, int number, int bundle) {
        Step laidIn(int where) {
            return new Step(kind, target, one, two, number, where);
        }
    }

    record State(List<Step> steps, List<Integer> registers, List<Integer> cells,
            List<Integer> slots, List<Integer> latencies, int delay) {
    }

    record Event(int round, int step, boolean isCell, int place, int value) {
    }

    record Values(int[] registers, int[] cells) {
    }

    record Loop(int beat, List<Integer> starts) {
    }

    private static final String NUMBER = "(0|[1-9][0-9]?)";
    private static final String CELL = "\\[[a-l]\\+(0|[2-9]|10|11|1)\\]";
    private static final String STEP = "([a-l]=(-?" + NUMBER + "|[a-l][-+*^][a-l]|" + CELL + ")|"
            + CELL + "=[a-l])";
    private static final Pattern TEXT = Pattern.compile(STEP + "(;" + STEP + ")*");
    private static final int FREE = -99;

    State now = new State(List.of(), zeros(12), zeros(12), List.of(2, 1, 1), List.of(1, 3, 2), 1);
    State snapshot = null;
    final List<State> saved = new ArrayList<>();
    String buffer = "";

    static List<Integer> zeros(int n) {
        List<Integer> list = new ArrayList<>();
        for (int i = 0; i < n; i++) {
            list.add(0);
        }
        return list;
    }

    static <T> List<T> with(List<T> list, int index, T value) {
        List<T> copy = new ArrayList<>(list);
        copy.set(index, value);
        return copy;
    }

    enum Fault {
        INDEX, ARGUMENT, STATE
    }

    static void need(boolean holds, Fault otherwise) {
        if (!holds) {
            throw switch (otherwise) {
                case INDEX -> new IndexOutOfBoundsException();
                case ARGUMENT -> new IllegalArgumentException();
                default -> new IllegalStateException();
            };
        }
    }

    void change(State next) {
        saved.add(now);
        if (saved.size() > 5) {
            saved.remove(0);
        }
        now = next;
    }

    void changeSteps(List<Step> next) {
        change(new State(next, now.registers, now.cells, now.slots, now.latencies, now.delay));
    }

    static boolean in(int value, int from, int to) {
        return value >= from && value <= to;
    }

    void needStep(int step) {
        need(in(step, 0, size() - 1), Fault.INDEX);
    }

    int size() {
        return now.steps.size();
    }

    // ---- changes

    int insert(int place, int kind, int target, int one, int two, int number) {
        need(in(place, 0, size()) && in(target, 0, 11) && in(one, 0, 11) && in(two, 0, 11), Fault.INDEX);
        need(in(kind, 0, 6) && in(number, -99, 99), Fault.ARGUMENT);
        need(size() < 20, Fault.STATE);
        List<Step> next = new ArrayList<>(now.steps);
        next.add(place, new Step(kind, target, one, two, number, -1));
        changeSteps(next);
        return size();
    }

    int remove(int step) {
        needStep(step);
        List<Step> next = new ArrayList<>(now.steps);
        next.remove(step);
        changeSteps(next);
        return size();
    }

    int exchange(int step, int other) {
        needStep(step);
        needStep(other);
        changeSteps(with(with(now.steps, step, now.steps.get(other)), other, now.steps.get(step)));
        return separation(Math.min(step, other), Math.max(step, other));
    }

    int setRegister(int register, int value) {
        need(in(register, 0, 11), Fault.INDEX);
        int previous = now.registers.get(register);
        change(new State(now.steps, with(now.registers, register, value), now.cells, now.slots,
                now.latencies, now.delay));
        return previous;
    }

    int setCell(int cell, int value) {
        need(in(cell, 0, 11), Fault.INDEX);
        int previous = now.cells.get(cell);
        change(new State(now.steps, now.registers, with(now.cells, cell, value), now.slots,
                now.latencies, now.delay));
        return previous;
    }

    int setSlots(int unit, int slots) {
        need(in(unit, 0, 2), Fault.INDEX);
        need(in(slots, 1, 4), Fault.ARGUMENT);
        int previous = now.slots.get(unit);
        change(new State(now.steps, now.registers, now.cells, with(now.slots, unit, slots),
                now.latencies, now.delay));
        return previous;
    }

    int setLatency(int unit, int latency) {
        need(in(unit, 0, 2), Fault.INDEX);
        need(in(latency, 1, 6), Fault.ARGUMENT);
        int previous = now.latencies.get(unit);
        change(new State(now.steps, now.registers, now.cells, now.slots,
                with(now.latencies, unit, latency), now.delay));
        return previous;
    }

    int setDelay(int delay) {
        need(in(delay, 0, 3), Fault.ARGUMENT);
        int previous = now.delay;
        change(new State(now.steps, now.registers, now.cells, now.slots, now.latencies, delay));
        return previous;
    }

    int lay(int step, int bundle) {
        needStep(step);
        need(in(bundle, 0, 199), Fault.ARGUMENT);
        int previous = bundleOf(step);
        changeSteps(with(now.steps, step, now.steps.get(step).laidIn(bundle)));
        return previous;
    }

    int takeOut(int step) {
        needStep(step);
        int previous = bundleOf(step);
        need(previous != -1, Fault.STATE);
        changeSteps(with(now.steps, step, now.steps.get(step).laidIn(-1)));
        return previous;
    }

    int pack() {
        List<Integer> plan = packed();
        List<Step> next = new ArrayList<>();
        for (int i = 0; i < size(); i++) {
            next.add(now.steps.get(i).laidIn(plan.get(i)));
        }
        changeSteps(next);
        return bundles();
    }

    int append(int code) {
        need(in(code, 33, 126), Fault.ARGUMENT);
        need(buffer.length() < 60, Fault.STATE);
        buffer += (char) code;
        return buffer.length();
    }

    int clearBuffer() {
        int previous = buffer.length();
        buffer = "";
        return previous;
    }

    int firstError() {
        for (int i = 1; i <= buffer.length(); i++) {
            Matcher matcher = TEXT.matcher(buffer.substring(0, i));
            if (!matcher.matches() && !matcher.hitEnd()) {
                return i - 1;
            }
        }
        return buffer.length();
    }

    int addAll() {
        need(TEXT.matcher(buffer).matches(), Fault.ARGUMENT);
        String[] parts = buffer.split(";");
        need(size() + parts.length <= 20, Fault.STATE);
        List<Step> next = new ArrayList<>(now.steps);
        for (String part : parts) {
            next.add(stepOf(part));
        }
        changeSteps(next);
        buffer = "";
        return size();
    }

    static Step stepOf(String part) {
        String[] sides = part.split("=");
        if (sides[0].startsWith("[")) {
            return new Step(6, 0, part.charAt(1) - 'a', sides[1].charAt(0) - 'a',
                    Integer.parseInt(sides[0].replaceAll("[^0-9]", "")), -1);
        }
        int target = part.charAt(0) - 'a';
        if (sides[1].startsWith("[")) {
            return new Step(5, target, sides[1].charAt(1) - 'a', 0,
                    Integer.parseInt(sides[1].replaceAll("[^0-9]", "")), -1);
        }
        if (sides[1].matches("-?[0-9]+")) {
            return new Step(0, target, 0, 0, Integer.parseInt(sides[1]), -1);
        }
        return new Step("+-*^".indexOf(sides[1].charAt(1)) + 1, target, sides[1].charAt(0) - 'a',
                sides[1].charAt(2) - 'a', 0, -1);
    }

    int undo() {
        need(!saved.isEmpty(), Fault.STATE);
        now = saved.remove(saved.size() - 1);
        return saved.size();
    }

    int keep() {
        snapshot = now;
        return size();
    }

    int goBack() {
        need(snapshot != null, Fault.STATE);
        change(snapshot);
        return size();
    }

    // ---- steps

    int kindOf(int step) {
        needStep(step);
        return now.steps.get(step).kind;
    }

    int readBy(int step) {
        needStep(step);
        Step s = now.steps.get(step);
        return switch (s.kind) {
            case 0 -> 0;
            case 5 -> 1 << s.one;
            default -> (1 << s.one) | (1 << s.two);
        };
    }

    boolean reads(int step, int register) {
        return (readBy(step) & (1 << register)) != 0;
    }

    int writtenBy(int step) {
        needStep(step);
        return now.steps.get(step).kind == 6 ? -1 : now.steps.get(step).target;
    }

    int unitOf(int step) {
        int kind = kindOf(step);
        return kind == 3 ? 1 : kind >= 5 ? 2 : 0;
    }

    int latencyOf(int step) {
        needStep(step);
        return kindOf(step) == 6 ? 1 : now.latencies.get(unitOf(step));
    }

    boolean isMemory(int step) {
        return kindOf(step) >= 5;
    }

    boolean areApart(int i, int j) {
        Step a = now.steps.get(i);
        Step b = now.steps.get(j);
        boolean same = a.one == b.one;
        for (int k = i; k < j; k++) {
            same = same && writtenBy(k) != a.one;
        }
        return same && (a.number + 120) % 12 != (b.number + 120) % 12;
    }

    int separation(int i, int j) {
        needStep(i);
        needStep(j);
        int greatest = FREE;
        if (i >= j) {
            return greatest;
        }
        for (int r = 0; r < 12; r++) {
            boolean between = false;
            for (int k = i + 1; k < j; k++) {
                between = between || writtenBy(k) == r;
            }
            if (writtenBy(i) == r && reads(j, r) && !between) {
                greatest = Math.max(greatest, latencyOf(i));
            }
            greatest = Math.max(greatest, again(i, j, r));
        }
        if (isMemory(i) && isMemory(j) && (kindOf(i) == 6 || kindOf(j) == 6) && !areApart(i, j)) {
            greatest = Math.max(greatest, kindOf(i) == 5 ? 0 : 1);
        }
        return greatest;
    }

    private int again(int i, int j, int r) {
        int greatest = FREE;
        if (reads(i, r) && writtenBy(j) == r) {
            greatest = Math.max(greatest, 1 - latencyOf(j));
        }
        if (writtenBy(i) == r && writtenBy(j) == r) {
            greatest = Math.max(greatest, latencyOf(i) + 1 - latencyOf(j));
        }
        return greatest;
    }

    int carried(int i, int j) {
        needStep(i);
        needStep(j);
        int greatest = FREE;
        for (int r = 0; r < 12; r++) {
            boolean between = false;
            for (int k = 0; k < size(); k++) {
                between = between || (writtenBy(k) == r && (k > i || k < j));
            }
            if (writtenBy(i) == r && reads(j, r) && !between) {
                greatest = Math.max(greatest, latencyOf(i));
            }
            greatest = Math.max(greatest, again(i, j, r));
        }
        if (isMemory(i) && isMemory(j) && (kindOf(i) == 6 || kindOf(j) == 6)) {
            greatest = Math.max(greatest, kindOf(i) == 5 ? 0 : 1);
        }
        return greatest;
    }

    private int[][] separations() {
        int[][] table = new int[size()][size()];
        for (int i = 0; i < size(); i++) {
            for (int j = 0; j < size(); j++) {
                table[i][j] = separation(i, j);
            }
        }
        return table;
    }

    private int[][] allCarried() {
        int[][] table = new int[size()][size()];
        for (int i = 0; i < size(); i++) {
            for (int j = 0; j < size(); j++) {
                table[i][j] = carried(i, j);
            }
        }
        return table;
    }

    private int[] heights() {
        int[][] separations = separations();
        int[] heights = new int[size()];
        for (int turn = 0; turn <= size(); turn++) {
            for (int i = 0; i < size(); i++) {
                heights[i] = Math.max(heights[i], latencyOf(i));
                for (int j = 0; j < size(); j++) {
                    if (separations[i][j] != FREE) {
                        heights[i] = Math.max(heights[i], separations[i][j] + heights[j]);
                    }
                }
            }
        }
        return heights;
    }

    private int[] earliest() {
        int[][] separations = separations();
        int[] earliest = new int[size()];
        for (int turn = 0; turn <= size(); turn++) {
            for (int i = 0; i < size(); i++) {
                for (int j = 0; j < size(); j++) {
                    if (separations[i][j] != FREE) {
                        earliest[j] = Math.max(earliest[j], earliest[i] + separations[i][j]);
                    }
                }
            }
        }
        return earliest;
    }

    int heightOf(int step) {
        needStep(step);
        return heights()[step];
    }

    int earliestOf(int step) {
        needStep(step);
        return earliest()[step];
    }

    int spanByHeights() {
        int span = 0;
        for (int height : heights()) {
            span = Math.max(span, height);
        }
        return span;
    }

    int spanByEarliest() {
        int span = 0;
        int[] earliest = earliest();
        for (int i = 0; i < size(); i++) {
            span = Math.max(span, earliest[i] + latencyOf(i));
        }
        return span;
    }

    // ---- bundles

    int bundleOf(int step) {
        needStep(step);
        return now.steps.get(step).bundle;
    }

    int stepsIn(int bundle) {
        need(in(bundle, 0, 199), Fault.ARGUMENT);
        int set = 0;
        for (int i = 0; i < size(); i++) {
            set += bundleOf(i) == bundle ? 1 << i : 0;
        }
        return set;
    }

    int bundles() {
        int span = 0;
        for (int bundle = 0; bundle < 200; bundle++) {
            span = stepsIn(bundle) != 0 ? bundle + 1 : span;
        }
        return span;
    }

    int[] wrong() {
        for (int i = 0; i < size(); i++) {
            if (bundleOf(i) == -1) {
                return new int[] {1, i};
            }
        }
        for (int bundle = 0; bundle < 200; bundle++) {
            int[] taken = new int[3];
            for (int i = 0; i < size(); i++) {
                if (bundleOf(i) == bundle) {
                    taken[unitOf(i)]++;
                }
            }
            for (int unit = 0; unit < 3; unit++) {
                if (taken[unit] > now.slots.get(unit)) {
                    return new int[] {2, bundle};
                }
            }
        }
        for (int j = 0; j < size(); j++) {
            for (int i = 0; i < j; i++) {
                if (separation(i, j) != FREE && bundleOf(j) - bundleOf(i) < separation(i, j)) {
                    return new int[] {3, j};
                }
            }
        }
        return new int[] {0, -1};
    }

    List<Integer> packed() {
        int[][] separations = separations();
        int[] heights = heights();
        Integer[] plan = new Integer[size()];
        for (int bundle = 0; bundle < 250; bundle++) {
            List<Integer> slots = new ArrayList<>(now.slots);
            while (true) {
                int best = -1;
                for (int j = size() - 1; j >= 0; j--) {
                    boolean ready = plan[j] == null && slots.get(unitOf(j)) > 0;
                    for (int i = 0; i < size() && ready; i++) {
                        ready = separations[i][j] == FREE
                                || (plan[i] != null && plan[i] + separations[i][j] <= bundle);
                    }
                    if (ready && (best == -1 || heights[j] >= heights[best])) {
                        best = j;
                    }
                }
                if (best == -1) {
                    break;
                }
                plan[best] = bundle;
                slots.set(unitOf(best), slots.get(unitOf(best)) - 1);
            }
        }
        return List.of(plan);
    }

    int wouldPack() {
        int span = 0;
        for (int bundle : packed()) {
            span = Math.max(span, bundle + 1);
        }
        return span;
    }

    double filledShare() {
        int laid = 0;
        for (int i = 0; i < size(); i++) {
            laid += bundleOf(i) != -1 ? 1 : 0;
        }
        int slots = now.slots.get(0) + now.slots.get(1) + now.slots.get(2);
        return laid == 0 ? 0.0 : (double) laid / (slots * bundles());
    }

    // ---- doing

    private Values first() {
        Values values = new Values(new int[12], new int[12]);
        for (int i = 0; i < 12; i++) {
            values.registers[i] = now.registers.get(i);
            values.cells[i] = now.cells.get(i);
        }
        return values;
    }

    private Event done(int round, int step, Values values) {
        Step s = now.steps.get(step);
        int one = values.registers[s.one];
        int two = values.registers[s.two];
        int cell = (int) ((((long) one + s.number) % 12 + 12) % 12);
        int value = switch (s.kind) {
            case 0 -> s.number;
            case 1 -> one + two;
            case 2 -> one - two;
            case 3 -> one * two;
            case 4 -> Math.max(one, two);
            case 5 -> values.cells[cell];
            default -> two;
        };
        return new Event(round, step, s.kind == 6, s.kind == 6 ? cell : s.target, value);
    }

    private static void put(Event event, Values values) {
        if (event.isCell) {
            values.cells[event.place] = event.value;
        } else {
            values.registers[event.place] = event.value;
        }
    }

    Values inOrder(int rounds) {
        Values values = first();
        for (int round = 0; round < rounds; round++) {
            for (int step = 0; step < size(); step++) {
                put(done(round, step, values), values);
            }
        }
        return values;
    }

    /** Steps at their starts, from round to round; the values at the beginning of the bundle end. */
    Values inTime(List<Integer> starts, int beat, int rounds, int end) {
        Values values = first();
        TreeMap<Integer, List<Event>> coming = new TreeMap<>();
        for (int time = 0; time <= end; time++) {
            List<Event> here = coming.getOrDefault(time, new ArrayList<>());
            here.sort((a, b) -> a.round != b.round ? a.round - b.round : a.step - b.step);
            for (Event event : here) {
                put(event, values);
            }
            for (int round = 0; round < rounds; round++) {
                for (int step = 0; step < size(); step++) {
                    if (starts.get(step) != -1 && starts.get(step) + round * beat == time) {
                        coming.computeIfAbsent(time + latencyOf(step), k -> new ArrayList<>())
                                .add(done(round, step, values));
                    }
                }
            }
        }
        return values;
    }

    Values inBundles(int end) {
        List<Integer> starts = new ArrayList<>();
        for (int i = 0; i < size(); i++) {
            starts.add(bundleOf(i));
        }
        return inTime(starts, 100000, 1, end);
    }

    boolean doesAgree() {
        Values a = inOrder(1);
        Values b = inBundles(300);
        return java.util.Arrays.equals(a.registers, b.registers)
                && java.util.Arrays.equals(a.cells, b.cells);
    }

    // ---- the loop

    int beatByUnits() {
        for (int beat = 1; ; beat++) {
            boolean enough = true;
            for (int unit = 0; unit < 3; unit++) {
                int wanted = unit == 0 ? 1 : 0;
                for (int i = 0; i < size(); i++) {
                    wanted += unitOf(i) == unit ? 1 : 0;
                }
                enough = enough && beat * now.slots.get(unit) >= wanted;
            }
            if (enough) {
                return beat;
            }
        }
    }

    /** By the greatest sums of walks with one edge, two edges, and so on, as many as steps. */
    int beatByCircles() {
        int[][] separations = separations();
        int[][] carried = allCarried();
        for (int beat = 1; ; beat++) {
            if (!hasCircle(separations, carried, beat)) {
                return beat;
            }
        }
    }

    private boolean hasCircle(int[][] separations, int[][] carried, int beat) {
        int n = size();
        long none = Long.MIN_VALUE / 4;
        long[][] walks = new long[n][n];
        long[][] edges = new long[n][n];
        for (int i = 0; i < n; i++) {
            for (int j = 0; j < n; j++) {
                edges[i][j] = none;
                edges[i][j] = separations[i][j] != FREE ? separations[i][j] : none;
                edges[i][j] = carried[i][j] != FREE
                        ? Math.max(edges[i][j], carried[i][j] - beat) : edges[i][j];
                walks[i][j] = edges[i][j];
            }
        }
        for (int length = 1; length <= n; length++) {
            for (int i = 0; i < n; i++) {
                if (walks[i][i] > 0) {
                    return true;
                }
            }
            long[][] next = new long[n][n];
            for (int i = 0; i < n; i++) {
                for (int j = 0; j < n; j++) {
                    next[i][j] = none;
                    for (int k = 0; k < n; k++) {
                        if (walks[i][k] != none && edges[k][j] != none) {
                            next[i][j] = Math.max(next[i][j], walks[i][k] + edges[k][j]);
                        }
                    }
                }
            }
            walks = next;
        }
        return false;
    }

    Loop loop() {
        int[][] separations = separations();
        int[][] carried = allCarried();
        int beat = Math.max(beatByUnits(), beatByCircles());
        while (true) {
            if (beat > now.delay) {
                List<Integer> starts = tried(separations, carried, beat);
                if (starts != null) {
                    return new Loop(beat, starts);
                }
            }
            beat++;
        }
    }

    private List<Integer> tried(int[][] separations, int[][] carried, int beat) {
        int[][] taken = new int[3][beat];
        taken[0][beat - 1 - now.delay]++;
        List<Integer> starts = new ArrayList<>();
        for (int j = 0; j < size(); j++) {
            int asked = 0;
            for (int i = 0; i < j; i++) {
                asked = Math.max(asked, separations[i][j] == FREE ? 0
                        : starts.get(i) + separations[i][j]);
                asked = Math.max(asked, carried[i][j] == FREE ? 0
                        : starts.get(i) + carried[i][j] - beat);
            }
            int found = -1;
            for (int bundle = asked; bundle <= asked + beat - 1 && found == -1; bundle++) {
                boolean good = taken[unitOf(j)][bundle % beat] < now.slots.get(unitOf(j));
                good = good && (carried[j][j] == FREE || carried[j][j] <= beat);
                for (int i = 0; i < j; i++) {
                    good = good && (carried[j][i] == FREE
                            || starts.get(i) - bundle >= carried[j][i] - beat);
                }
                found = good ? bundle : -1;
            }
            if (found == -1) {
                return null;
            }
            starts.add(found);
            taken[unitOf(j)][found % beat]++;
        }
        return starts;
    }

    int overlap(Loop loop) {
        int most = 0;
        for (int start : loop.starts) {
            most = Math.max(most, start / loop.beat + 1);
        }
        return most;
    }

    int loopBundles(Loop loop, int rounds) {
        int most = 0;
        for (int start : loop.starts) {
            for (int round = 0; round < rounds; round++) {
                most = Math.max(most, start + round * loop.beat + 1);
            }
        }
        return most;
    }

    Values inLoop(Loop loop, int rounds) {
        return inTime(loop.starts, loop.beat, rounds, loopBundles(loop, rounds) + 10);
    }

    // ---- the digest

    private long hash;

    private void mix(long value) {
        hash = 31 * hash + value;
    }

    long digest() {
        hash = 4643;
        Loop loop = loop();
        int circles = beatByCircles();
        int[] heights = heights();
        int[] earliest = earliest();
        mix(size());
        mix(spanByHeights());
        mix(spanByEarliest());
        mix(bundles());
        mix(wrong()[0]);
        mix(wrong()[1]);
        mix(wouldPack());
        mix(doesAgree() ? 1 : 0);
        mix(beatByUnits());
        mix(circles);
        mix(circles);
        mix(loop.beat);
        mix(loop.beat - 1 - now.delay);
        mix(overlap(loop));
        for (int i = 0; i < size(); i++) {
            mix(kindOf(i));
            mix(readBy(i));
            mix(writtenBy(i));
            mix(latencyOf(i));
            mix(heights[i]);
            mix(earliest[i]);
            mix(bundleOf(i));
            mix(loop.starts.get(i));
            for (int j = 0; j < size(); j++) {
                mix(separation(i, j));
                mix(carried(i, j));
            }
        }
        int span = bundles();
        for (int bundle = 0; bundle < span; bundle++) {
            mix(stepsIn(bundle));
        }
        digestOfValues(loop);
        mix(loopBundles(loop, 4));
        mix(saved.size());
        mix(Double.doubleToLongBits(filledShare()));
        mix(snapshot != null ? 1 : 0);
        mix(buffer.length());
        for (char sign : buffer.toCharArray()) {
            mix(sign);
        }
        return hash;
    }

    private void digestOfValues(Loop loop) {
        Values order = inOrder(1);
        Values bundles = inBundles(300);
        Values three = inLoop(loop, 3);
        Values rounds = inOrder(3);
        Values two = inLoop(loop, 2);
        for (int r = 0; r < 12; r++) {
            mix(order.registers[r]);
            mix(bundles.registers[r]);
            mix(three.registers[r]);
            mix(rounds.registers[r]);
        }
        for (int c = 0; c < 12; c++) {
            mix(order.cells[c]);
            mix(bundles.cells[c]);
            mix(two.cells[c]);
        }
    }
}
