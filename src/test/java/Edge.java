import java.util.ArrayList;
import java.util.List;

/** What the tests of the document's sentences have in common. */
final class Edge {
    interface To {
        void go(BuntingBundles x);
    }

    interface Ask {
        long of(BuntingBundles x, int number);
    }

    static final Class<?> INDEX = IndexOutOfBoundsException.class;
    static final Class<?> ARGUMENT = IllegalArgumentException.class;
    static final Class<?> STATE = IllegalStateException.class;
    static final int NONE = -1;
    static final int FREE = -99;
    static final int LEAST = Integer.MIN_VALUE;
    static final int GREATEST = Integer.MAX_VALUE;

    private Edge() {
    }

    static BuntingBundles made(To calls) {
        BuntingBundles x = new BuntingBundles();
        calls.go(x);
        return x;
    }

    /** Steps, values, units, a buffer, a snapshot, four saved states: all of it unlike at first. */
    static void rich(BuntingBundles x) {
        for (int i = 0; i < 12; i++) {
            x.setRegister(i, 5 + i * i);
            x.setCell(i, 1000 - 7 * i);
        }
        Check.type(x, "a=b*c;d=a-f;[b+1]=d;e=[b+2];a=a-e;g=-9");
        x.addAll();
        x.lay(2, 7);
        x.setSlots(2, 2);
        x.keep();
        while (x.savedStates() > 0) {
            x.undo();
        }
        x.goBack();
        x.setLatency(1, 4);
        x.setDelay(2);
        x.lay(0, 3);
        Check.type(x, "c=7;");
    }

    /** An object with 20 steps, none of them laid. */
    static void full(BuntingBundles x) {
        rich(x);
        x.clearBuffer();
        Check.type(x, "a=1;b=2;c=3;d=4;e=5;f=6;g=7;h=8;i=9;j=a+b;k=a*b;l=j-k");
        x.addAll();
        Check.type(x, "a=b*c;d=d+e");
        x.addAll();
    }

    /** All that later calls can tell of an object after these calls, saved states and snapshot too. */
    static List<Long> allOf(To calls) {
        List<Long> all = new ArrayList<>();
        int saved = made(calls).savedStates();
        for (int turns = 0; turns <= saved; turns++) {
            BuntingBundles x = made(calls);
            for (int turn = 0; turn < turns; turn++) {
                x.undo();
            }
            tell(x, all);
        }
        BuntingBundles back = made(calls);
        boolean hasSnapshot = Check.thrownBy(back::goBack).isEmpty();
        all.add(hasSnapshot ? 1L : 0L);
        tell(back, all);
        return all;
    }

    /** Setting is the only way to be told what units, registers and cells have at first. */
    private static void tell(BuntingBundles x, List<Long> all) {
        all.add(x.digest());
        for (int i = 0; i < 12; i++) {
            all.add((long) x.setRegister(i, 3 * i - 40));
            all.add((long) x.setCell(i, 5 * i + 70));
        }
        for (int unit = 0; unit < 3; unit++) {
            all.add((long) x.setSlots(unit, 2));
            all.add((long) x.setLatency(unit, 2));
        }
        all.add((long) x.setDelay(0));
        all.add(x.digest());
    }

    /** Behind both runs of calls all that can be told is the same. */
    static void same(String what, To calls, To others) {
        Check.yes(what, allOf(calls).equals(allOf(others)));
    }

    /** The call throws just this, whatever else holds, and changes nothing at all. */
    static void refuses(Class<?> want, To before, To call) {
        BuntingBundles x = made(before);
        Check.yes("throws " + want.getSimpleName(), Check.thrownBy(() -> {
            call.go(x);
            return 0;
        }).equals(want.getSimpleName()));
        same("what throws changes nothing", before, y -> {
            before.go(y);
            Check.thrownBy(() -> {
                call.go(y);
                return 0;
            });
        });
    }

    /** Each number is refused by a call that takes it. */
    static void refusesEach(Class<?> want, To before, Ask call, int... numbers) {
        for (int number : numbers) {
            refuses(want, before, x -> call.of(x, number));
        }
    }

    /** Each number is taken by a call. */
    static void takesEach(To before, Ask call, int... numbers) {
        for (int number : numbers) {
            BuntingBundles x = made(before);
            Check.yes("takes " + number, Check.thrownBy(() -> call.of(x, number)).isEmpty());
        }
    }

    /** Ahead of the call fewer than five states are saved, so undo has to bring back all. */
    static void undoable(To before, To call) {
        BuntingBundles x = made(before);
        int saved = x.savedStates();
        call.go(x);
        Check.due("saved states", saved + 1, x.savedStates());
        Check.due("undo", saved, x.undo());
        same("undo brings back all", before, y -> {
            before.go(y);
            call.go(y);
            y.undo();
        });
    }

    /** The call answers and changes nothing at all. */
    static void changesNothing(To before, To call) {
        same("nothing is changed", before, x -> {
            before.go(x);
            call.go(x);
        });
    }
}
