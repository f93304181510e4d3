import java.util.ArrayList;
import java.util.Collections;
import java.util.List;

/**
 * Calls that make a design, to be made again on a new object whenever one is needed:
 * an object is good for 512 calls, which are soon used up by asking for all that is in it.
 */
final class Recipe {
    static final int CALLS_OF_AN_OBJECT = 512;

    interface Call {
        Object on(DesignTrees x);
    }

    private final List<Call> calls;
    private boolean toldOfAThrow = false;

    Recipe() {
        this(List.of());
    }

    private Recipe(List<Call> calls) {
        this.calls = calls;
    }

    int size() {
        return calls.size();
    }

    int callsLeft() {
        return CALLS_OF_AN_OBJECT - calls.size();
    }

    DesignTrees made() {
        if (callsLeft() < 1) {
            throw new IllegalArgumentException("a fault of the test: no call is left to ask anything");
        }
        DesignTrees x = new DesignTrees();
        calls.forEach(call -> make(x, call));
        return x;
    }

    /** A throw where none is due is told once, and does not keep the other checks from being made. */
    private void make(DesignTrees x, Call call) {
        try {
            call.on(x);
        } catch (RuntimeException e) {
            if (!toldOfAThrow) {
                Checks.hold("a call that makes the design threw " + e.getClass().getSimpleName(), false);
            }
            toldOfAThrow = true;
        }
    }

    /** A number, true, false, or the plain name of what was thrown. */
    static String answer(DesignTrees x, Call call) {
        try {
            return String.valueOf(call.on(x));
        } catch (RuntimeException e) {
            return e.getClass().getSimpleName();
        }
    }

    Recipe then(Call call) {
        return times(1, call);
    }

    Recipe times(int n, Call call) {
        return withAll(Collections.nCopies(n, call));
    }

    /** A call that may throw: what comes behind it is made all the same. */
    Recipe tried(Call call) {
        return then(x -> answer(x, call));
    }

    Recipe then(Recipe more) {
        return withAll(more.calls);
    }

    private Recipe withAll(List<Call> more) {
        List<Call> all = new ArrayList<>(calls);
        all.addAll(more);
        return new Recipe(all);
    }

    Recipe modules(int n) {
        return times(n, x -> x.module());
    }

    Recipe ports(int n, int module, int width, boolean out) {
        return times(n, x -> x.port(module, width, out));
    }

    Recipe port(int module, int width, boolean out) {
        return ports(1, module, width, out);
    }

    Recipe instances(int n, int module, int of) {
        return times(n, x -> x.instance(module, of));
    }

    Recipe instance(int module, int of) {
        return instances(1, module, of);
    }

    Recipe nets(int n, int module) {
        return times(n, x -> x.net(module));
    }

    Recipe join(int module, int net, int instance, int pin) {
        return then(x -> x.join(module, net, instance, pin));
    }

    Recipe part(int module, int instance, int pin) {
        return then(x -> x.part(module, instance, pin));
    }

    Recipe copy(int module) {
        return then(x -> x.copy(module));
    }

    Recipe copies(int n, int module) {
        return times(n, x -> x.copy(module));
    }

    Recipe flat(int module) {
        return then(x -> x.flat(module));
    }

    Recipe clear() {
        return then(x -> {
            x.clear();
            return "nothing";
        });
    }

    /** Calls that ask only, until but one call is left. */
    Recipe askedToTheLast() {
        return times(callsLeft() - 1, x -> x.kinds());
    }

    /** Module 0 is a leaf, each one behind it has so many instances of the one before it. */
    static Recipe chain(int... instances) {
        Recipe made = new Recipe().modules(instances.length + 1);
        for (int i = 0; i < instances.length; i++) {
            made = made.instances(instances[i], i + 1, i);
        }
        return made;
    }

    /**
     * 0: pins 0 in, 1 .. 3 out; two instances of 1; four nets, net 0 with five pins. 1: a leaf, pins 0 and 1 in, 2 out.
     * 2: two instances of 0, a net that joins them. 3: the flat one of 2. 4: nothing. 5: a copy of 0, which shares.
     */
    static Recipe sample() {
        return new Recipe().modules(3)
                .port(0, 1, false).port(0, 3, true).port(1, 2, false).port(1, 1, true)
                .instances(2, 0, 1).nets(4, 0)
                .join(0, 0, DesignTrees.NONE, 0).join(0, 0, DesignTrees.NONE, 3)
                .join(0, 0, 0, 1).join(0, 0, 1, 0).join(0, 0, 1, 2)
                .join(0, 1, DesignTrees.NONE, 1).join(0, 3, 0, 2)
                .instances(2, 2, 0).nets(1, 2).join(2, 0, 0, 1).join(2, 0, 1, 0)
                .flat(2).modules(1).copy(0);
    }
}
