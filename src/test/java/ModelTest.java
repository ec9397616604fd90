/**
 * Runs of calls by a fixed row of numbers, each call against the model, with wrong inputs too, and
 * objects with as many steps as there may be.
 */
final class ModelTest {
    private static long seed = 20261119L;

    private static int pick(int from, int to) {
        seed = seed * 6364136223846793005L + 1442695040888963407L;
        return from + (int) ((seed >>> 33) % (to - from + 1));
    }

    private static void same(int run, String call, Check.Call program, Check.Call model) {
        String a = answer(program);
        String b = answer(model);
        if (!a.equals(b)) {
            Check.due("run " + run + ": " + call + " (" + a + ", model " + b + ")", 0, 1);
        } else {
            Check.due(call, 0, 0);
        }
    }

    private static String answer(Check.Call call) {
        try {
            return Long.toString(call.go());
        } catch (RuntimeException e) {
            return e.getClass().getSimpleName();
        }
    }

    private static int step(Model m) {
        return pick(0, 19) == 0 ? pick(-2, 21) : pick(0, Math.max(0, m.size() - 1));
    }

    private static int near(int from, int to) {
        return pick(0, 24) == 0 ? pick(from - 2, to + 2) : pick(from, to);
    }

    private static int value() {
        int way = pick(0, 5);
        return way == 0 ? Integer.MAX_VALUE - pick(0, 120) : way == 1
                ? Integer.MIN_VALUE + pick(0, 120) : pick(-300, 300);
    }

    private static final String SIGNS = "abcl=+-*^[];0123456789mz";

    private static String someText(int steps) {
        StringBuilder text = new StringBuilder();
        for (int i = 0; i < steps; i++) {
            text.append(i > 0 ? ";" : "");
            char t = (char) ('a' + pick(0, 11));
            char o = (char) ('a' + pick(0, 4));
            char w = (char) ('a' + pick(0, 4));
            switch (pick(0, 3)) {
                case 0 -> text.append(t).append('=').append(pick(-99, 99));
                case 1 -> text.append(t).append('=').append(o).append("+-*^".charAt(pick(0, 3)))
                        .append(w);
                case 2 -> text.append(t).append("=[").append(o).append('+').append(pick(0, 11))
                        .append(']');
                default -> text.append('[').append(o).append('+').append(pick(0, 11)).append("]=")
                        .append(w);
            }
        }
        if (pick(0, 2) == 0) {
            int place = pick(0, text.length() - 1);
            text.setCharAt(place, SIGNS.charAt(pick(0, SIGNS.length() - 1)));
        }
        if (pick(0, 5) == 0) {
            text.setLength(pick(0, text.length()));
        }
        return text.toString();
    }

    private static void change(int run, BuntingBundles x, Model m, int registers) {
        int s = step(m);
        int o = step(m);
        int v = value();
        switch (pick(0, 17)) {
            case 0, 1, 2, 3, 4 -> {
                int place = pick(0, 14) == 0 ? pick(-1, 21) : pick(0, m.size());
                int kind = near(0, 6);
                int target = near(0, registers);
                int one = near(0, registers);
                int two = near(0, registers);
                int number = near(-99, 99);
                same(run, "insert", () -> x.insert(place, kind, target, one, two, number),
                        () -> m.insert(place, kind, target, one, two, number));
            }
            case 5 -> same(run, "remove", () -> x.remove(s), () -> m.remove(s));
            case 6 -> same(run, "exchange", () -> x.exchange(s, o), () -> m.exchange(s, o));
            case 7 -> {
                int r = near(0, 11);
                same(run, "setRegister", () -> x.setRegister(r, v), () -> m.setRegister(r, v));
            }
            case 8 -> {
                int c = near(0, 11);
                same(run, "setCell", () -> x.setCell(c, v), () -> m.setCell(c, v));
            }
            case 9 -> {
                int u = near(0, 2);
                int n = near(1, 4);
                same(run, "setSlots", () -> x.setSlots(u, n), () -> m.setSlots(u, n));
            }
            case 10 -> {
                int u = near(0, 2);
                int n = near(1, 6);
                same(run, "setLatency", () -> x.setLatency(u, n), () -> m.setLatency(u, n));
            }
            case 11 -> {
                int n = near(0, 3);
                same(run, "setDelay", () -> x.setDelay(n), () -> m.setDelay(n));
            }
            case 12 -> {
                int b = pick(0, 7) == 0 ? pick(-2, 202) : pick(0, 15);
                same(run, "lay", () -> x.lay(s, b), () -> m.lay(s, b));
            }
            case 13 -> same(run, "takeOut", () -> x.takeOut(s), () -> m.takeOut(s));
            case 14 -> same(run, "pack", x::pack, m::pack);
            case 15 -> {
                if (pick(0, 1) == 0) {
                    same(run, "undo", x::undo, m::undo);
                } else {
                    same(run, "goBack", x::goBack, m::goBack);
                }
            }
            case 16 -> {
                if (pick(0, 3) == 0) {
                    same(run, "keep", x::keep, m::keep);
                }
            }
            default -> typeText(run, x, m);
        }
    }

    private static void typeText(int run, BuntingBundles x, Model m) {
        for (char sign : someText(pick(1, 6)).toCharArray()) {
            same(run, "append", () -> x.append(sign), () -> m.append(sign));
        }
        int code = pick(0, 20) == 0 ? pick(30, 130) : 'a';
        if (code != 'a') {
            same(run, "append", () -> x.append(code), () -> m.append(code));
        }
        same(run, "firstError " + m.buffer, x::firstError, m::firstError);
        same(run, "addAll " + m.buffer, x::addAll, m::addAll);
        if (pick(0, 3) != 0) {
            same(run, "clearBuffer", x::clearBuffer, m::clearBuffer);
        }
    }

    private static void look(int run, BuntingBundles x, Model m) {
        int s = step(m);
        int o = step(m);
        int r = near(0, 11);
        int b = near(0, pick(0, 1) == 0 ? 20 : 205);
        int n = near(0, 20);
        switch (pick(0, 9)) {
            case 0 -> same(run, "separation", () -> x.separation(s, o), () -> m.separation(s, o));
            case 1 -> same(run, "carried", () -> x.carried(s, o), () -> m.carried(s, o));
            case 2 -> same(run, "heightOf", () -> x.heightOf(s), () -> m.heightOf(s));
            case 3 -> same(run, "earliestOf", () -> x.earliestOf(s), () -> m.earliestOf(s));
            case 4 -> same(run, "stepsIn", () -> x.stepsIn(b), () -> m.stepsIn(b));
            case 5 -> same(run, "registerAt", () -> x.registerAt(b, r), () -> {
                Model.need(Model.in(r, 0, 11), Model.Fault.INDEX);
                Model.need(Model.in(b, 0, 205), Model.Fault.ARGUMENT);
                return m.inBundles(b).registers()[r];
            });
            case 6 -> same(run, "registerInLoop", () -> x.registerInLoop(n, r), () -> {
                Model.need(Model.in(r, 0, 11), Model.Fault.INDEX);
                Model.need(Model.in(n, 0, 20), Model.Fault.ARGUMENT);
                return m.inLoop(m.loop(), n).registers()[r];
            });
            case 7 -> same(run, "cellInLoop", () -> x.cellInLoop(n, r), () -> {
                Model.need(Model.in(r, 0, 11), Model.Fault.INDEX);
                Model.need(Model.in(n, 0, 20), Model.Fault.ARGUMENT);
                return m.inLoop(m.loop(), n).cells()[r];
            });
            case 8 -> same(run, "whyWrong", x::whyWrong, () -> m.wrong()[0]);
            default -> same(run, "loopBundles", () -> x.loopBundles(n), () -> {
                Model.need(Model.in(n, 0, 20), Model.Fault.ARGUMENT);
                return m.loopBundles(m.loop(), n);
            });
        }
    }

    /** What the document says must hold whatever the steps are. */
    private static void laws(int run, BuntingBundles x) {
        Check.due("run " + run + ": spans", x.spanByHeights(), x.spanByEarliest());
        Check.due("run " + run + ": circles", x.beatByCircles(), x.beatByRounds());
        if (x.whyWrong() == 0) {
            Check.yes("run " + run + ": right bundles agree", x.doesAgree());
        }
        int register = pick(0, 11);
        for (int rounds = 0; rounds <= 20; rounds += pick(1, 7)) {
            Check.due("run " + run + ": rounds " + rounds, x.registerInRounds(rounds, register),
                    x.registerInLoop(rounds, register));
        }
        x.pack();
        Check.due("run " + run + ": packing is right", 0, x.whyWrong());
        Check.due("run " + run + ": packing ends where nothing is wrong", -1, x.wrongAt());
        x.undo();
    }

    /** As many steps as there may be, of few registers or many: the loops with the greatest beats. */
    private static void full(int run) {
        BuntingBundles x = new BuntingBundles();
        Model m = new Model();
        int registers = run % 12;
        int way = run % 5;
        for (int place = 0; place < 20; place++) {
            int at = place;
            int kind = way == 0 ? pick(0, 6) : way == 1 ? 3 : way == 2 ? 3 + 2 * pick(0, 1)
                    : way == 3 ? pick(5, 6) : pick(2, 6);
            int target = pick(0, registers);
            int one = pick(0, registers);
            int two = pick(0, registers);
            int number = pick(-99, 99);
            same(run, "insert", () -> x.insert(at, kind, target, one, two, number),
                    () -> m.insert(at, kind, target, one, two, number));
        }
        for (int unit = 0; unit < 3; unit++) {
            int u = unit;
            int slots = pick(0, 1) == 0 ? 1 : pick(1, 4);
            int latency = pick(0, 2) == 0 ? 6 : pick(1, 6);
            same(run, "setSlots", () -> x.setSlots(u, slots), () -> m.setSlots(u, slots));
            same(run, "setLatency", () -> x.setLatency(u, latency), () -> m.setLatency(u, latency));
        }
        int delay = pick(0, 3);
        same(run, "setDelay", () -> x.setDelay(delay), () -> m.setDelay(delay));
        for (int place = 0; place < 12; place++) {
            int at = place;
            int value = value();
            same(run, "setRegister", () -> x.setRegister(at, value), () -> m.setRegister(at, value));
            same(run, "setCell", () -> x.setCell(at, ~value), () -> m.setCell(at, ~value));
        }
        same(run, "pack", x::pack, m::pack);
        same(run, "digest of a full one", x::digest, m::digest);
        laws(run, x);
    }

    /** A number as the argument makes other runs than the ones of each time. */
    public static void main(String[] args) {
        if (args.length > 0) {
            seed = Long.parseLong(args[0]);
        }
        for (int run = 0; run < 400; run++) {
            BuntingBundles x = new BuntingBundles();
            Model m = new Model();
            int registers = run % 3 == 0 ? 11 : run % 3 == 1 ? 3 : 1;
            int calls = run % 4 == 0 ? 200 : 60;
            for (int call = 0; call < calls; call++) {
                change(run, x, m, registers);
                look(run, x, m);
                if (call % 7 == 0) {
                    same(run, "digest", x::digest, m::digest);
                }
            }
            same(run, "digest", x::digest, m::digest);
            laws(run, x);
        }
        for (int run = 400; run < 520; run++) {
            full(run);
        }
        Check.finish("ModelTest");
    }
}
