/** Promises 45 to 55: beats, the loop as it is laid, and what it does. */
final class LoopTest {
    private static final String SUM_OF_SQUARES = "a=a+b;c=a*a;d=c+d";

    private static void units() {
        Check.due("the jump alone", 1, new BuntingBundles().beatByUnits());
        Check.due("one step and the jump", 1, Check.with("a=1").beatByUnits());
        Check.due("two steps and the jump", 2, Check.with("a=1;b=2").beatByUnits());
        Check.due("three steps and the jump", 2, Check.with("a=1;b=2;c=3").beatByUnits());
        Check.due("four steps and the jump", 3, Check.with("a=1;b=2;c=3;d=4").beatByUnits());
        Check.due("three products", 3, Check.with("a=b*b;c=b*b;d=b*b").beatByUnits());
        BuntingBundles x = Check.with("a=[b+1];[b+2]=c;d=[b+3];e=[b+4];f=1;f=2;f=3");
        Check.due("four of cells", 4, x.beatByUnits());
        x.setSlots(2, 3);
        Check.due("four of cells in three slots", 2, x.beatByUnits());
        x.setSlots(0, 4);
        Check.due("three and the jump in four slots", 2, x.beatByUnits());
        x.setSlots(2, 4);
        Check.due("no unit asks for more", 1, x.beatByUnits());
        x.setSlots(0, 1);
        Check.due("three and the jump in one slot", 4, x.beatByUnits());
    }

    private static void circles(String text, int want) {
        BuntingBundles x = Check.with(text);
        Check.due("beatByCircles of " + text, want, x.beatByCircles());
        Check.due("beatByRounds of " + text, want, x.beatByRounds());
    }

    private static void circles() {
        circles("", 1);
        circles("a=1", 1);
        circles("a=a+b", 1);
        circles("a=a*b", 3);
        circles("a=b*b", 1);
        circles("a=b*c;b=a*c", 6);
        circles("a=b*c;b=a+c", 4);
        circles("e=a+a;a=b*c;b=e*c", 4);
        circles("d=4;d=a*a", 2);
        circles("b=[b+0]", 2);
        circles("[b+1]=b;b=[b+1]", 3);
        circles(SUM_OF_SQUARES, 1);
    }

    private static void longestCircle() {
        BuntingBundles x = new BuntingBundles();
        x.setLatency(1, 6);
        for (int step = 0; step < 20; step++) {
            x.insert(step, BuntingBundles.TIMES, 0, 0, 0, 0);
        }
        Check.due("twenty products one on the other", 120, x.beatByCircles());
        Check.due("twenty products one on the other", 120, x.beatByRounds());
        Check.due("beat", 120, x.beat());
        Check.due("the last bundle", 114, x.loopBundleOf(19));
        Check.due("overlap", 1, x.overlap());
        Check.due("loopBundles", 115 + 19 * 120, x.loopBundles(20));
        x.setRegister(0, 3);
        Check.due("all rounds", x.registerInRounds(20, 0), x.registerInLoop(20, 0));
    }

    private static void laid(BuntingBundles x, int beat, int... bundles) {
        Check.due("beat", beat, x.beat());
        int last = -1;
        for (int step = 0; step < bundles.length; step++) {
            Check.due("loopBundleOf " + step, bundles[step], x.loopBundleOf(step));
            last = Math.max(last, bundles[step]);
        }
        Check.due("overlap", last < 0 ? 0 : last / beat + 1, x.overlap());
        for (int rounds = 0; rounds <= 20; rounds++) {
            Check.due("loopBundles of " + rounds,
                    last < 0 || rounds == 0 ? 0 : last + (rounds - 1) * beat + 1,
                    x.loopBundles(rounds));
        }
    }

    private static void loops() {
        laid(new BuntingBundles(), 2);
        laid(Check.with(SUM_OF_SQUARES), 2, 0, 1, 5);
        BuntingBundles x = Check.with("a=b*b;d=a+d");
        x.setDelay(0);
        laid(x, 1, 0, 3);
        x.setRegister(1, 5);
        Check.due("rounds one behind the other", 150, x.registerInLoop(6, 3));
        laid(Check.with("d=4;d=a*a"), 3, 0, 0);
        laid(Check.with("a=b*b;c=a*a;[e+1]=c;d=[e+2]"), 2, 0, 3, 6, 5);
        laid(Check.with("a=b*c;b=a*c"), 6, 0, 3);
        laid(Check.with("e=a+a;a=b*c;b=e*c"), 4, 0, 0, 1);
    }

    private static void jump() {
        BuntingBundles x = new BuntingBundles();
        for (int delay = 0; delay <= 3; delay++) {
            x.setDelay(delay);
            Check.due("beat with the delay " + delay, delay + 1, x.beat());
            Check.due("jumpBundle with the delay " + delay, 0, x.jumpBundle());
        }
        BuntingBundles y = Check.with("a=1");
        y.setSlots(0, 1);
        y.setDelay(0);
        laid(y, 2, 0);
        Check.due("jumpBundle", 1, y.jumpBundle());
        y.setDelay(1);
        laid(y, 2, 1);
        Check.due("jumpBundle", 0, y.jumpBundle());
        y.setDelay(2);
        laid(y, 3, 1);
        Check.due("jumpBundle", 0, y.jumpBundle());
        BuntingBundles z = Check.with("a=b*c;b=a*c");
        Check.due("jumpBundle", 4, z.jumpBundle());
        z.setDelay(3);
        Check.due("jumpBundle", 2, z.jumpBundle());
        Check.due("beat stays", 6, z.beat());
        z.setLatency(1, 1);
        Check.due("above the delay", 4, z.beat());
    }

    private static void doing() {
        BuntingBundles x = Check.with(SUM_OF_SQUARES);
        x.setRegister(1, 3);
        x.setRegister(3, 100);
        int[] want = {100, 109, 145, 226, 370};
        for (int rounds = 0; rounds < want.length; rounds++) {
            Check.due("registerInLoop of " + rounds, want[rounds], x.registerInLoop(rounds, 3));
            Check.due("registerInRounds of " + rounds, want[rounds],
                    x.registerInRounds(rounds, 3));
        }
        Check.due("20 rounds", 25930, x.registerInLoop(20, 3));
        Check.due("a register that none writes", 3, x.registerInLoop(20, 1));
        BuntingBundles y = Check.with("b=b+c;[b+0]=b;d=[b+0]");
        y.setRegister(2, 1);
        y.setCell(5, 77);
        for (int rounds = 0; rounds <= 20; rounds++) {
            for (int cell = 0; cell < 12; cell++) {
                int last = rounds - (rounds - cell + 12) % 12;
                Check.due("cell " + cell + " of " + rounds, last > 0 ? last : cell == 5 ? 77 : 0,
                        y.cellInLoop(rounds, cell));
            }
            Check.due("LOAD of " + rounds, rounds, y.registerInLoop(rounds, 3));
        }
        Check.due("nothing is laid by it", BuntingBundles.NONE, y.bundleOf(0));
        BuntingBundles z = Check.with("a=b*b;c=a*a;[e+1]=c;d=[e+2];e=e+f;b=b+f");
        z.setRegister(5, 1);
        for (int rounds = 0; rounds <= 20; rounds++) {
            for (int register = 0; register < 12; register++) {
                Check.due("register " + register + " of " + rounds,
                        z.registerInRounds(rounds, register), z.registerInLoop(rounds, register));
            }
        }
        Check.due("without steps", 5, withRegister(5).registerInLoop(20, 7));
        Check.due("without steps", 5, withRegister(5).registerInRounds(20, 7));
    }

    private static BuntingBundles withRegister(int value) {
        BuntingBundles x = new BuntingBundles();
        x.setRegister(7, value);
        return x;
    }

    private static void wrongInputs() {
        BuntingBundles x = Check.with(SUM_OF_SQUARES);
        for (int wrong : new int[] {-1, 12, Integer.MIN_VALUE, Integer.MAX_VALUE}) {
            for (Check.Call call : new Check.Call[] {() -> x.registerInLoop(0, wrong),
                () -> x.registerInLoop(21, wrong), () -> x.registerInRounds(0, wrong),
                () -> x.registerInRounds(-1, wrong), () -> x.cellInLoop(0, wrong),
                () -> x.cellInLoop(21, wrong)}) {
                Check.throwing(x, "the place " + wrong, IndexOutOfBoundsException.class, call);
            }
        }
        for (int wrong : new int[] {-1, 21, Integer.MIN_VALUE, Integer.MAX_VALUE}) {
            for (Check.Call call : new Check.Call[] {() -> x.registerInLoop(wrong, 0),
                () -> x.registerInRounds(wrong, 11), () -> x.cellInLoop(wrong, 0),
                () -> x.loopBundles(wrong)}) {
                Check.throwing(x, "rounds " + wrong, IllegalArgumentException.class, call);
            }
        }
        for (int wrong : new int[] {-1, 3, Integer.MAX_VALUE}) {
            Check.throwing(x, "loopBundleOf", IndexOutOfBoundsException.class,
                    () -> x.loopBundleOf(wrong));
        }
        BuntingBundles y = new BuntingBundles();
        Check.throwing(y, "loopBundles without steps", IllegalArgumentException.class,
                () -> y.loopBundles(21));
    }

    public static void main(String[] args) {
        units();
        circles();
        longestCircle();
        loops();
        jump();
        doing();
        wrongInputs();
        Check.finish("LoopTest");
    }
}
