/** Sentences of the document about the loop, and of the promises 45 to 55. */
final class LoopEdges {
    private static final String[] TEXTS = {"a=a+b;c=a*a;d=c+d", "a=b*b;c=a*a;[e+1]=c;d=[e+2];e=e+f",
        "e=a+a;a=b*c;b=e*c", "d=4;d=a*a;a=d-a;b=[d+3];[b+0]=a", "a=b*c;b=a*c;a=1;c=a+b",
        "[a+0]=b;a=a+f;b=[a+7];[b+1]=a;c=[c+5]", "a=a*a;a=a+f;a=a*a;a=5;b=b^a;b=b-f",
        "a=1;a=f*f;a=2;b=a+b;a=[b+0];[a+3]=b;a=b*b;[f+9]=a"};

    private LoopEdges() {
    }

    private static void says(int promise, String words) {
        Check.says(promise, words);
    }

    private static BuntingBundles with(String text, int... latencies) {
        BuntingBundles x = Check.with(text);
        for (int unit = 0; unit < latencies.length; unit++) {
            x.setLatency(unit, latencies[unit]);
        }
        return x;
    }

    private static BuntingBundles slots(BuntingBundles x, int... slots) {
        for (int unit = 0; unit < slots.length; unit++) {
            x.setSlots(unit, slots[unit]);
        }
        return x;
    }

    private static BuntingBundles delay(BuntingBundles x, int delay) {
        x.setDelay(delay);
        return x;
    }

    private static BuntingBundles some(int kind, int count) {
        BuntingBundles x = new BuntingBundles();
        for (int i = 0; i < count; i++) {
            x.insert(i, kind, i % 12, 0, 0, i);
        }
        return x;
    }

    /** The loop as it is laid: its beat, and the bundle of each step. */
    private static void loop(BuntingBundles x, int beat, int... bundles) {
        Check.due("beat", beat, x.beat());
        for (int step = 0; step < bundles.length; step++) {
            Check.due("loopBundleOf " + step + " of " + bundles.length, bundles[step],
                    x.loopBundleOf(step));
        }
    }

    /** A loop of a text with the units and the delay by a number, and with values of all kinds. */
    private static BuntingBundles varied(String text, int number) {
        BuntingBundles x = Check.with(text);
        for (int i = 0; i < 12; i++) {
            x.setRegister(i, 3 * i - 7);
            x.setCell(i, 40 + i * i);
        }
        x.setRegister(5, 1);
        for (int unit = 0; unit < 3; unit++) {
            x.setSlots(unit, 1 + (number + unit) % 4);
            x.setLatency(unit, 1 + (number * (unit + 1) + unit) % 6);
        }
        return delay(x, number / 3 % 4);
    }

    // ---- beats

    private static void rounds() {
        says(0, "In the loop all steps are done in rounds, again and again.");
        BuntingBundles x = Check.with("a=a+b;c=c-b");
        x.setRegister(1, 3);
        for (int rounds = 0; rounds <= 20; rounds++) {
            Check.due("a behind " + rounds, 3 * rounds, x.registerInLoop(rounds, 0));
            Check.due("c behind " + rounds, -3 * rounds, x.registerInLoop(rounds, 2));
        }
        says(0, "Rounds begin one beat after the other.");
        BuntingBundles y = Check.with("a=b*c;b=a*c");
        for (int rounds = 1; rounds <= 20; rounds++) {
            Check.due("bundles of " + rounds, 4 + 6 * (rounds - 1), y.loopBundles(rounds));
        }
    }

    private static void units() {
        says(0, "The beat by units is the least one, 1 or more, with which for each unit the beat times"
                + " its slots is not less than the number of its steps (for the unit 0 and the jump,"
                + " together).");
        for (int slots = 1; slots <= 4; slots++) {
            for (int count = 0; count <= 20; count++) {
                Check.due(count + " SET in " + slots, Math.max(1, -Math.floorDiv(-count - 1, slots)),
                        slots(some(BuntingBundles.SET, count), slots, 4, 4).beatByUnits());
                Check.due(count + " TIMES in " + slots, Math.max(1, -Math.floorDiv(-count, slots)),
                        slots(some(BuntingBundles.TIMES, count), 4, slots, 4).beatByUnits());
                Check.due(count + " LOAD in " + slots, Math.max(1, -Math.floorDiv(-count, slots)),
                        slots(some(BuntingBundles.LOAD, count), 4, 4, slots).beatByUnits());
            }
        }
        BuntingBundles x = Check.with("a=1;b=2;c=f*f;d=f*f;e=f*f;[f+1]=f;a=[f+2]");
        Check.due("each unit", 3, x.beatByUnits());
        x.setSlots(1, 3);
        Check.due("the unit 2", 2, x.beatByUnits());
        x.setSlots(2, 2);
        Check.due("the unit 0 with the jump", 2, x.beatByUnits());
        x.setSlots(0, 3);
        Check.due("none asks for more than 1", 1, x.beatByUnits());
    }

    private static void circle(BuntingBundles x, int want) {
        Check.due("beatByCircles", want, x.beatByCircles());
        Check.due("beatByRounds", want, x.beatByRounds());
    }

    private static void circles() {
        says(0, "The beat by circles is the least one, 1 or more, with which no circle of hanging steps"
                + " has a sum above 0, if each separation counts as it is, and each carried one less"
                + " the beat.");
        circle(new BuntingBundles(), 1);
        circle(Check.with("a=1"), 1);
        circle(with("a=1", 6, 6, 6), 1);
        circle(Check.with("a=b*c;d=a*a"), 1);
        for (int latency = 1; latency <= 6; latency++) {
            circle(with("a=a*b", 1, latency), latency);
            circle(with("a=b*c;b=a*c", 1, latency), 2 * latency);
            circle(with("a=b*c;b=a+c", 2, latency), 2 + latency);
            circle(with("b=[b+0]", 1, 1, latency), latency);
            circle(with("[b+1]=b;b=[b+1]", 1, 1, latency), 1 + latency);
            circle(with("e=a+a;a=b*c;b=e*c", 1, latency), (1 + 2 * latency + 1) / 2);
            circle(with("d=4;d=a*a", 1, latency), 2);
            circle(with("a=7;d=a*a;e=d+a", 1, latency), 1 + latency);
            circle(with("a=[b+0];d=a*a;e=d+a", 1, 3, latency), 4);
        }
        circle(Check.with("f=a+a;a=b*c;b=d*c;d=f*c"), 4);
        circle(Check.with("[b+1]=c;d=[b+2]"), 1);
        circle(Check.with("[b+1]=c;[b+1]=d"), 2);
        circle(Check.with("[b+1]=c;[d+1]=c;[e+1]=c;[f+1]=c"), 4);
    }

    private static void longCircles() {
        says(46, "Returns the beat by circles, told by a table of all steps. Returns the beat.");
        for (int count = 1; count <= 20; count++) {
            BuntingBundles x = some(BuntingBundles.TIMES, 0);
            for (int i = 0; i < count; i++) {
                x.insert(i, BuntingBundles.TIMES, 0, 0, 0, 0);
            }
            x.setLatency(1, 6);
            Check.due("a circle of " + count, 6 * count, x.beatByCircles());
        }
        Check.due("no steps", 1, new BuntingBundles().beatByCircles());
        Check.due("all apart", 1, some(BuntingBundles.SET, 12).beatByCircles());
        says(47, "Returns the same, told by rounds: how far steps are pushed, again and again, as often"
                + " as there are steps.");
        for (int count = 1; count <= 20; count++) {
            BuntingBundles x = new BuntingBundles();
            x.setLatency(1, 6);
            for (int i = 0; i < count; i++) {
                x.insert(0, BuntingBundles.TIMES, 0, 0, 0, 0);
            }
            Check.due("a circle of " + count, 6 * count, x.beatByRounds());
        }
        Check.due("no steps", 1, new BuntingBundles().beatByRounds());
        Check.due("all apart", 1, some(BuntingBundles.SET, 12).beatByRounds());
        says(47, "Returns the beat, the same as by beatByCircles().");
        for (String text : TEXTS) {
            for (int number = 0; number < 24; number++) {
                BuntingBundles x = varied(text, number);
                Check.due("both for " + text, x.beatByCircles(), x.beatByRounds());
            }
        }
        says(45, "Returns the beat by units. Returns the beat.");
        Check.due("no steps", 1, new BuntingBundles().beatByUnits());
        Check.due("no steps, one slot", 1, slots(new BuntingBundles(), 1).beatByUnits());
        Check.due("one step, one slot", 2, slots(Check.with("a=1"), 1).beatByUnits());
        Check.due("the greatest", 21, slots(some(BuntingBundles.SET, 20), 1).beatByUnits());
    }

    // ---- the loop as it is laid

    private static void leastBeat() {
        says(0, "The loop is laid with the least beat, from the greater one of both on, that is above"
                + " the delay (0 to 3, at first 1), and with which this is possible:");
        for (int delay = 0; delay <= 3; delay++) {
            loop(delay(new BuntingBundles(), delay), delay + 1);
            loop(delay(Check.with("a=1"), delay), delay + 1, 0);
            loop(delay(Check.with("b=a*a;c=a*a;d=a*a"), delay), Math.max(3, delay + 1), 0, 1, 2);
            loop(delay(Check.with("a=b*c;b=a*c"), delay), 6, 0, 3);
        }
        loop(new BuntingBundles(), 2);
        loop(Check.with("d=4;d=a*a"), 3, 0, 0);
        Check.due("though both would be less", 2, Check.with("d=4;d=a*a").beatByCircles());
        loop(with("d=4;d=a*a", 1, 6), 6, 0, 0);
        says(0, "the jump takes a slot of the unit 0 in the bundle whose number is the beat, less 1,"
                + " less the delay;");
        int[][] want = {{0, 1, 2, 3, 4}, {0, 1, 2, 3, 5}, {0, 1, 2, 4, 5}, {0, 1, 3, 4, 5}};
        for (int delay = 0; delay <= 3; delay++) {
            BuntingBundles x = slots(Check.with("a=1;b=2;c=3;d=4;e=5"), 1);
            loop(delay(x, delay), 6, want[delay]);
            Check.due("jumpBundle", 5 - delay, x.jumpBundle());
        }
        loop(slots(delay(Check.with("a=1"), 0), 1), 2, 0);
        loop(slots(delay(Check.with("a=1"), 1), 1), 2, 1);
        loop(slots(delay(Check.with("a=1"), 2), 1), 3, 1);
        loop(delay(Check.with("a=1;b=2"), 1), 2, 0, 1);
        loop(Check.with("a=b*b;[c+0]=d"), 2, 0, 0);
    }

    private static void firstBundle() {
        says(0, "then, by rising numbers, each step is laid in the first bundle, from the greatest one"
                + " of 0 and of those that its hangings ask for, on,");
        loop(Check.with("a=1;b=2;c=3"), 2, 0, 1, 1);
        loop(Check.with("d=a+b;a=b*c"), 3, 0, 0);
        loop(Check.with("c=a+a;b=d*d;a=1"), 2, 0, 0, 1);
        loop(Check.with("a=a+b;c=a*a;d=c+d"), 2, 0, 1, 5);
        for (int latency = 1; latency <= 6; latency++) {
            loop(with("a=b*b;d=a+d", 1, latency), 2, 0, latency);
        }
        BuntingBundles again = Check.with("a=b*b;d=a+d");
        for (int latency : new int[] {6, 1, 5, 2}) {
            again.setLatency(1, latency);
            loop(again, 2, 0, latency);
        }
        says(0, "but at most the beat less 1 further, in which its unit has a slot free (a slot is taken"
                + " in all bundles that leave the same number, divided by the beat),");
        for (int latency = 1; latency <= 6; latency++) {
            loop(with("a=b*c;d=a*a", 1, latency), 2, 0, latency + (latency + 1) % 2);
            loop(slots(with("a=b*c;d=a*a", 1, latency), 2, 2), 2, 0, latency);
        }
        loop(Check.with("a=b*c;d=a*a;e=a*a"), 3, 0, 4, 5);
        loop(with("a=b*c;d=a*a;e=d*d", 1, 1), 3, 0, 1, 2);
        loop(with("a=b*c;d=a*a;e=d*d", 1, 2), 3, 0, 2, 4);
        loop(with("a=b*c;d=a*a;e=a*a", 1, 5), 3, 0, 5, 7);
        says(0, "so that also no step that is laid already breaks a carried separation on it (nor it one"
                + " on itself).");
        loop(Check.with("d=4;d=a*a"), 3, 0, 0);
        loop(slots(with("a=f+f;b=f+f;a=f*f", 1, 3), 4), 3, 0, 0, 0);
        loop(slots(with("a=f+f;b=f+f;a=f*f", 1, 2), 4), 2, 0, 0, 0);
        loop(with("a=a*b", 1, 5), 5, 0);
        loop(slots(Check.with("f=1;g=2;a=[b+0];c=a*a;d=c*c;e=d+a"), 1), 9, 0, 1, 0, 2, 5, 8);
        Check.due("though both would be less", 7,
                slots(Check.with("f=1;g=2;a=[b+0];c=a*a;d=c*c;e=d+a"), 1).beatByCircles());
        for (int number = 0; number < 24; number++) {
            for (String text : TEXTS) {
                holds(varied(text, number));
            }
        }
    }

    /** No hanging is broken by the loop as it is laid, and no slot is taken too often. */
    private static void holds(BuntingBundles x) {
        int beat = x.beat();
        Check.yes("the beat is great enough", beat >= x.beatByUnits() && beat >= x.beatByCircles()
                && x.jumpBundle() >= 0);
        for (int i = 0; i < x.steps(); i++) {
            for (int j = 0; j < x.steps(); j++) {
                int apart = x.loopBundleOf(j) - x.loopBundleOf(i);
                Check.yes("separation", x.separation(i, j) == Edge.FREE || apart >= x.separation(i, j));
                Check.yes("carried", x.carried(i, j) == Edge.FREE
                        || apart + beat >= x.carried(i, j));
            }
        }
    }

    private static void hangingsAsk() {
        says(0, "Its hangings ask, for each step laid already on which it hangs, for the bundle of that"
                + " one and the separation, together, and, if that is carried, less the beat.");
        loop(Check.with("a=b*c;d=a+a"), 2, 0, 3);
        loop(with("a=b*c;e=f*f;d=a+e", 1, 4), 2, 0, 1, 5);
        loop(Check.with("a=b*b;c=a*a;[e+1]=c;d=[e+2]"), 2, 0, 3, 6, 5);
        loop(slots(Check.with("a=b*b;c=a*a;[e+1]=c;d=[e+2]"), 2, 2, 2), 2, 0, 3, 6, 5);
        loop(slots(delay(Check.with("a=b*b;c=a*a;[e+1]=c;d=[e+2]"), 0), 4, 2, 2), 1, 0, 3, 6, 6);
        loop(delay(Check.with("a=b*b;c=a*a;[e+1]=c;d=[e+2]"), 2), 3, 0, 4, 7, 5);
        loop(Check.with("c=b*b;d=c*c;g=d+a;a=[e+1];[e+2]=f"), 2, 0, 3, 6, 5, 4);
    }

    // ---- doing the loop

    private static void doing() {
        says(0, "To do the loop means the same as to do bundles, but that each step of the round m (from"
                + " 0 on) is done in its bundle and m times the beat, together;");
        BuntingBundles x = Check.with("a=a+b;c=a*a;d=c+d");
        x.setRegister(1, 3);
        x.setRegister(3, 100);
        int[] want = {100, 109, 145, 226, 370};
        for (int rounds = 0; rounds < want.length; rounds++) {
            Check.due("d behind " + rounds, want[rounds], x.registerInLoop(rounds, 3));
            Check.due("a behind " + rounds, 3 * rounds, x.registerInLoop(rounds, 0));
        }
        BuntingBundles y = Check.with("b=b+c;[b+0]=b;d=[b+0]");
        y.setRegister(2, 1);
        y.setCell(5, 77);
        for (int rounds = 0; rounds <= 20; rounds++) {
            for (int cell = 0; cell < 12; cell++) {
                int last = rounds - (rounds - cell + 12) % 12;
                Check.due("cell " + cell + " of " + rounds, last > 0 ? last : cell == 5 ? 77 : 0,
                        y.cellInLoop(rounds, cell));
            }
            Check.due("LOAD of " + rounds, rounds, y.registerInLoop(rounds, 3));
        }
        says(0, "of several that write the same at one beginning, what the latest round, and of that the"
                + " step with the greatest number, writes stays.");
        for (String text : new String[] {"a=1;a=f*f;a=2;b=a+b;a=b*b", "[a+0]=b;[a+0]=c;b=b+f;c=c*b",
            "a=a+f;a=a*a;a=a+f;a=[a+0];a=a^f;a=a-b"}) {
            for (int number = 0; number < 24; number++) {
                asInRounds(varied(text, number));
            }
        }
    }

    private static void asInRounds(BuntingBundles x) {
        for (int rounds = 0; rounds <= 20; rounds += rounds < 3 ? 1 : 17) {
            for (int register = 0; register < 6; register++) {
                Check.due("register " + register + " behind " + rounds,
                        x.registerInRounds(rounds, register), x.registerInLoop(rounds, register));
            }
        }
    }

    // ---- promises 48 to 52

    private static void beat() {
        says(48, "Returns the beat with which the loop is laid. Returns the beat.");
        Check.due("no steps", 2, new BuntingBundles().beat());
        Check.due("by units", 21, slots(some(BuntingBundles.SET, 20), 1).beat());
        Check.due("by circles", 6, Check.with("a=b*c;b=a*c").beat());
        Check.due("by the delay", 4, delay(Check.with("a=1"), 3).beat());
        Check.due("above all of them", 3, Check.with("d=4;d=a*a").beat());
        says(49, "Returns the bundle of a step in the loop, in the round 0.");
        loop(Check.with("a=a+b;c=a*a;d=c+d"), 2, 0, 1, 5);
        says(49, "`step`: its number");
        Edge.takesEach(Edge::rich, BuntingBundles::loopBundleOf, 0, 5);
        says(49, "Returns the bundle.");
        BuntingBundles x = new BuntingBundles();
        x.setLatency(1, 6);
        for (int i = 0; i < 20; i++) {
            x.insert(i, BuntingBundles.TIMES, 0, 0, 0, 0);
        }
        for (int i = 0; i < 20; i++) {
            Check.due("of twenty, " + i, 6 * i, x.loopBundleOf(i));
        }
        Check.due("bundles laid by hand do not count", -1, x.bundleOf(0));
        x.lay(0, 100);
        Check.due("bundles laid by hand do not count", 0, x.loopBundleOf(0));
        says(49, "Throws `IndexOutOfBoundsException` if there is no such step");
        Edge.refusesEach(Edge.INDEX, Edge::rich, BuntingBundles::loopBundleOf, -1, 6, Edge.LEAST,
                Edge.GREATEST);
        Edge.refusesEach(Edge.INDEX, Edge::full, BuntingBundles::loopBundleOf, 20);
        Edge.refusesEach(Edge.INDEX, y -> { }, BuntingBundles::loopBundleOf, 0);
        says(50, "Returns the bundle of the jump.");
        for (int delay = 0; delay <= 3; delay++) {
            Check.due("with a long beat", 5 - delay, delay(Check.with("a=b*c;b=a*c"), delay)
                    .jumpBundle());
        }
        says(50, "Returns the bundle, below the beat.");
        for (int delay = 0; delay <= 3; delay++) {
            Check.due("with the least beat", 0, delay(new BuntingBundles(), delay).jumpBundle());
        }
        Check.due("one below the beat", 2, delay(Check.with("b=a*a;c=a*a;d=a*a"), 0).jumpBundle());
    }

    private static void overlap() {
        says(51, "Returns how many rounds overlap at most. Returns the last bundle of a step in the"
                + " round 0, divided by the beat, and 1;");
        Check.due("in the bundle 0", 1, Check.with("a=1").overlap());
        Check.due("one below the beat", 1, Check.with("a=1;b=2").overlap());
        Check.due("at the beat", 2, with("a=b*b;d=a+d", 1, 2).overlap());
        Check.due("one above the beat", 2, with("a=b*b;d=a+d", 1, 3).overlap());
        Check.due("at twice the beat", 3, with("a=b*b;d=a+d", 1, 4).overlap());
        Check.due("the last one is not the last step's", 4, Check
                .with("a=b*b;c=a*a;[e+1]=c;d=[e+2]").overlap());
        Check.due("each bundle one round", 7, slots(delay(Check.with("a=b*b;c=a*a;[e+1]=c"), 0), 4, 2,
                2).overlap());
        says(51, "0 without steps.");
        Check.due("no steps", 0, new BuntingBundles().overlap());
        BuntingBundles x = Check.with("a=1");
        x.remove(0);
        Check.due("no steps any more", 0, x.overlap());
        says(52, "Returns how many bundles rounds of the loop need.");
        Check.due("one round", 6, Check.with("a=a+b;c=a*a;d=c+d").loopBundles(1));
        says(52, "`rounds`: 0 to 20");
        Edge.takesEach(Edge::rich, BuntingBundles::loopBundles, 0, 1, 19, 20);
        Edge.takesEach(y -> { }, BuntingBundles::loopBundles, 0, 20);
        says(52, "Returns 1 more than the last bundle of a step in them;");
        for (int rounds = 1; rounds <= 20; rounds++) {
            Check.due("of " + rounds, 6 + 2 * (rounds - 1), Check.with("a=a+b;c=a*a;d=c+d")
                    .loopBundles(rounds));
            Check.due("of " + rounds, 1 + 2 * (rounds - 1), Check.with("a=1").loopBundles(rounds));
            Check.due("the last one is not the last step's", 7 + 2 * (rounds - 1),
                    Check.with("a=b*b;c=a*a;[e+1]=c;d=[e+2]").loopBundles(rounds));
        }
        says(52, "0 without steps or rounds.");
        Check.due("no steps", 0, new BuntingBundles().loopBundles(20));
        Check.due("no steps", 0, new BuntingBundles().loopBundles(1));
        Check.due("no rounds", 0, Check.with("a=b*c;d=a+a").loopBundles(0));
        Check.due("neither", 0, new BuntingBundles().loopBundles(0));
        says(52, "Throws `IllegalArgumentException` if rounds is out of range");
        Edge.refusesEach(Edge.ARGUMENT, Edge::rich, BuntingBundles::loopBundles, -1, 21, Edge.LEAST,
                Edge.GREATEST);
        Edge.refusesEach(Edge.ARGUMENT, y -> { }, BuntingBundles::loopBundles, -1, 21);
    }

    // ---- promises 53 to 55

    private static void registerInLoop() {
        says(53, "Returns the value of a register behind rounds of the loop, when all results are"
                + " there.");
        BuntingBundles x = with("l=a*a", 1, 6);
        x.setRegister(0, 4);
        for (int rounds = 1; rounds <= 20; rounds++) {
            Check.due("the last result", 16, x.registerInLoop(rounds, 11));
        }
        says(53, "`rounds`: 0 to 20");
        Edge.takesEach(Edge::rich, (y, n) -> y.registerInLoop(n, 0), 0, 1, 19, 20);
        BuntingBundles z = Check.with("a=a+b");
        z.setRegister(0, 5);
        z.setRegister(1, 2);
        Check.due("no rounds", 5, z.registerInLoop(0, 0));
        Check.due("the most rounds", 45, z.registerInLoop(20, 0));
        says(53, "`register`: 0 to 11");
        Edge.takesEach(Edge::rich, (y, n) -> y.registerInLoop(2, n), 0, 11);
        says(53, "Returns the value.");
        Check.due("one that none writes", 2, z.registerInLoop(20, 1));
        Check.due("without steps", 0, new BuntingBundles().registerInLoop(20, 11));
        says(53, "Throws `IndexOutOfBoundsException` if there is no such register");
        Edge.refusesEach(Edge.INDEX, Edge::rich, (y, n) -> y.registerInLoop(3, n), -1, 12,
                Edge.LEAST, Edge.GREATEST);
        says(53, "Throws `IllegalArgumentException` if rounds is out of range");
        Edge.refusesEach(Edge.ARGUMENT, Edge::rich, (y, n) -> y.registerInLoop(n, 3), -1, 21,
                Edge.LEAST, Edge.GREATEST);
    }

    private static void registerInRounds() {
        says(54, "Returns the value of a register behind rounds, all steps done one after the other.");
        BuntingBundles x = Check.with("a=a+b;b=b+a");
        x.setRegister(1, 1);
        int[] want = {0, 1, 3, 8, 21, 55};
        for (int rounds = 0; rounds < want.length; rounds++) {
            Check.due("behind " + rounds, want[rounds], x.registerInRounds(rounds, 0));
        }
        says(54, "`rounds`: 0 to 20");
        Edge.takesEach(Edge::rich, (y, n) -> y.registerInRounds(n, 0), 0, 1, 19, 20);
        BuntingBundles z = Check.with("a=a-b");
        z.setRegister(0, 5);
        z.setRegister(1, 2);
        Check.due("no rounds", 5, z.registerInRounds(0, 0));
        Check.due("the most rounds", -35, z.registerInRounds(20, 0));
        says(54, "`register`: 0 to 11");
        Edge.takesEach(Edge::rich, (y, n) -> y.registerInRounds(2, n), 0, 11);
        says(54, "Returns the value, the same as by registerInLoop().");
        for (String text : TEXTS) {
            for (int number = 0; number < 24; number++) {
                asInRounds(varied(text, number));
            }
        }
        says(54, "Throws `IndexOutOfBoundsException` if there is no such register");
        Edge.refusesEach(Edge.INDEX, Edge::rich, (y, n) -> y.registerInRounds(3, n), -1, 12,
                Edge.LEAST, Edge.GREATEST);
        says(54, "Throws `IllegalArgumentException` if rounds is out of range");
        Edge.refusesEach(Edge.ARGUMENT, Edge::rich, (y, n) -> y.registerInRounds(n, 3), -1, 21,
                Edge.LEAST, Edge.GREATEST);
    }

    private static void cellInLoop() {
        says(55, "Returns the value of a cell behind rounds of the loop, when all results are there.");
        BuntingBundles x = Check.with("a=a+b;[c+11]=a");
        x.setRegister(1, 3);
        for (int rounds = 0; rounds <= 20; rounds++) {
            Check.due("the last result", 3 * rounds, x.cellInLoop(rounds, 11));
        }
        says(55, "`rounds`: 0 to 20");
        Edge.takesEach(Edge::rich, (y, n) -> y.cellInLoop(n, 0), 0, 1, 19, 20);
        BuntingBundles z = Check.with("[b+0]=b;b=b+c");
        z.setCell(0, 9);
        z.setRegister(2, 1);
        Check.due("no rounds", 9, z.cellInLoop(0, 0));
        Check.due("one round", 0, z.cellInLoop(1, 0));
        Check.due("the most rounds", 12, z.cellInLoop(20, 0));
        Check.due("the most rounds", 19, z.cellInLoop(20, 7));
        says(55, "`cell`: 0 to 11");
        Edge.takesEach(Edge::rich, (y, n) -> y.cellInLoop(2, n), 0, 11);
        says(55, "Returns the value.");
        Check.due("one that none writes", 0, x.cellInLoop(20, 10));
        Check.due("without steps", 0, new BuntingBundles().cellInLoop(20, 11));
        says(55, "Throws `IndexOutOfBoundsException` if there is no such cell");
        Edge.refusesEach(Edge.INDEX, Edge::rich, (y, n) -> y.cellInLoop(3, n), -1, 12, Edge.LEAST,
                Edge.GREATEST);
        says(55, "Throws `IllegalArgumentException` if rounds is out of range");
        Edge.refusesEach(Edge.ARGUMENT, Edge::rich, (y, n) -> y.cellInLoop(n, 3), -1, 21, Edge.LEAST,
                Edge.GREATEST);
    }

    private static void nothingIsChanged() {
        says(0, "nothing is changed.");
        Edge.changesNothing(Edge::rich, x -> {
            x.beatByUnits();
            x.beatByCircles();
            x.beatByRounds();
            x.beat();
            x.jumpBundle();
            x.overlap();
            for (int i = 0; i < 6; i++) {
                x.loopBundleOf(i);
                x.loopBundles(3 * i);
                x.registerInLoop(3 * i, i);
                x.registerInRounds(3 * i, i);
                x.cellInLoop(3 * i, i);
            }
            x.digest();
        });
    }

    static void run() {
        rounds();
        units();
        circles();
        longCircles();
        leastBeat();
        firstBundle();
        hangingsAsk();
        doing();
        beat();
        overlap();
        registerInLoop();
        registerInRounds();
        cellInLoop();
        nothingIsChanged();
    }
}
