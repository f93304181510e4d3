/** Every number that a call takes: its first and last one, those just beyond, and the least and the greatest int. */
public final class RangesTest extends Checks {
    private static final String NO_SUCH = "IndexOutOfBoundsException: there is no such module, instance, net, pin,"
            + " place or what";
    /** Among them numbers that would come back into range if they were cut down to fewer bits. */
    private static final int[] SMALL = {LEAST, LEAST + 1, -65536, -256, -2, -1};
    private static final int[] LARGE = {24, 64, 127, 128, 255, 256, 65536, 1 << 24, GREATEST - 1, GREATEST};

    private static final Recipe SAMPLE = Recipe.sample();

    /** A call with one of its numbers left open. */
    private interface CallAt {
        Object on(DesignTrees x, int number);
    }

    private record ModuleCall(int promise, String name, CallAt call) { }

    /** All of them are fine for modules 0 and 5 of the sample, and for a copy of module 0. */
    private static final ModuleCall[] MODULE_CALLS = {
        new ModuleCall(3, "port(m, 1, true)", (x, m) -> x.port(m, 1, true)),
        new ModuleCall(4, "instance(m, 1)", (x, m) -> x.instance(m, 1)),
        new ModuleCall(4, "instance(4, m)", (x, m) -> x.instance(4, m)),
        new ModuleCall(5, "net(m)", (x, m) -> x.net(m)),
        new ModuleCall(6, "join(m, 2, 0, 0)", (x, m) -> x.join(m, 2, 0, 0)),
        new ModuleCall(7, "part(m, NONE, 0)", (x, m) -> x.part(m, NONE, 0)),
        new ModuleCall(8, "netOf(m, NONE, 0)", (x, m) -> x.netOf(m, NONE, 0)),
        new ModuleCall(9, "pins(m, 0)", (x, m) -> x.pins(m, 0)),
        new ModuleCall(10, "pin(m, 0, 0, 0)", (x, m) -> x.pin(m, 0, 0, 0)),
        new ModuleCall(11, "copy(m)", (x, m) -> x.copy(m)),
        new ModuleCall(12, "shared(m, 0)", (x, m) -> x.shared(m, 0)),
        new ModuleCall(12, "shared(0, m)", (x, m) -> x.shared(0, m)),
        new ModuleCall(12, "shared(m, m)", (x, m) -> x.shared(m, m)),
        new ModuleCall(13, "flat(m)", (x, m) -> x.flat(m)),
        new ModuleCall(14, "path(m, 0, 0)", (x, m) -> x.path(m, 0, 0)),
        new ModuleCall(15, "doubled(m, 0)", (x, m) -> x.doubled(m, 0)),
        new ModuleCall(16, "open(m, 0)", (x, m) -> x.open(m, 0)),
        new ModuleCall(17, "alike(m, 0)", (x, m) -> x.alike(m, 0)),
        new ModuleCall(17, "alike(0, m)", (x, m) -> x.alike(0, m)),
        new ModuleCall(17, "alike(m, m)", (x, m) -> x.alike(m, m)),
        new ModuleCall(18, "count(m, 0)", (x, m) -> x.count(m, 0)),
        new ModuleCall(19, "moduleOf(m, 0)", (x, m) -> x.moduleOf(m, 0)),
    };

    public static void main(String[] args) {
        modulesOfTheSample();
        modulesOfNone();
        modulesOfAFullObject();
        instances();
        nets();
        ownPins();
        pinsOfAnInstance();
        placesOfPins();
        whats();
        placesBelowNought();
        partsOfAnEmptyModule();
        rangesAtTheLimits();
        end();
    }

    private static void range(int promise, String name, int first, int last, CallAt call) {
        range(promise, name, SAMPLE, first, last, call);
    }

    private static void range(int promise, String name, Recipe recipe, int first, int last, CallAt call) {
        says(promise, NO_SUCH);
        for (int number = first; number <= last; number++) {
            within(name, recipe, number, call);
        }
        for (int number : SMALL) {
            if (number < first) {
                beyond(name, recipe, number, call);
            }
        }
        beyond(name, recipe, last + 1, call);
        beyond(name, recipe, last + 2, call);
        for (int number : LARGE) {
            if (number > last + 2) {
                beyond(name, recipe, number, call);
            }
        }
    }

    private static void within(String name, Recipe recipe, int number, CallAt call) {
        String answer = Recipe.answer(recipe.made(), x -> call.on(x, number));
        hold(name + " at " + number + " answered " + answer, !answer.equals(INDEX));
    }

    private static void beyond(String name, Recipe recipe, int number, CallAt call) {
        refused(name + " at " + number, INDEX, recipe, x -> call.on(x, number));
    }

    private static void modulesOfTheSample() {
        for (ModuleCall of : MODULE_CALLS) {
            says(of.promise, NO_SUCH);
            within(of.name, SAMPLE, 0, of.call);
            within(of.name, SAMPLE, 5, of.call);
            for (int number : SMALL) {
                beyond(of.name, SAMPLE, number, of.call);
            }
            beyond(of.name, SAMPLE, 6, of.call);
            beyond(of.name, SAMPLE, 7, of.call);
            for (int number : LARGE) {
                beyond(of.name, SAMPLE, number, of.call);
            }
        }
    }

    /** A new object, and one that was cleared: what was there is no more. */
    private static void modulesOfNone() {
        for (Recipe recipe : new Recipe[] {new Recipe(), SAMPLE.clear()}) {
            for (ModuleCall of : MODULE_CALLS) {
                says(of.promise, NO_SUCH);
                for (int number : new int[] {LEAST, -1, 0, 1, 5, 23, 24, GREATEST}) {
                    beyond(of.name, recipe, number, of.call);
                }
            }
        }
    }

    private static void modulesOfAFullObject() {
        Recipe oneLess = SAMPLE.modules(16).copy(0);
        Recipe full = oneLess.copy(0);
        for (ModuleCall of : MODULE_CALLS) {
            says(of.promise, NO_SUCH);
            within(of.name, oneLess, 22, of.call);
            beyond(of.name, oneLess, 23, of.call);
            within(of.name, full, 23, of.call);
            beyond(of.name, full, 24, of.call);
            beyond(of.name, full, GREATEST, of.call);
            beyond(of.name, full, LEAST, of.call);
        }
    }

    private static void instances() {
        range(6, "join(0, 2, instance, 1)", NONE, 1, (x, n) -> x.join(0, 2, n, 1));
        range(7, "part(0, instance, 0)", NONE, 1, (x, n) -> x.part(0, n, 0));
        range(8, "netOf(0, instance, 0)", NONE, 1, (x, n) -> x.netOf(0, n, 0));
        range(14, "path(0, instance, 0)", 0, 1, (x, n) -> x.path(0, n, 0));
        range(14, "path(3, instance, 0)", 0, 3, (x, n) -> x.path(3, n, 0));
        range(19, "moduleOf(0, instance)", 0, 1, (x, n) -> x.moduleOf(0, n));
    }

    private static void nets() {
        range(6, "join(0, net, 0, 0)", 0, 3, (x, n) -> x.join(0, n, 0, 0));
        range(6, "join(0, net, NONE, 2)", 0, 3, (x, n) -> x.join(0, n, NONE, 2));
        range(9, "pins(0, net)", 0, 3, (x, n) -> x.pins(0, n));
        range(10, "pin(2, net, 0, 0)", 0, 0, (x, n) -> x.pin(2, n, 0, 0));
    }

    private static void ownPins() {
        range(6, "join(0, 2, NONE, pin)", 0, 3, (x, n) -> x.join(0, 2, NONE, n));
        range(7, "part(0, NONE, pin)", 0, 3, (x, n) -> x.part(0, NONE, n));
        range(8, "netOf(0, NONE, pin)", 0, 3, (x, n) -> x.netOf(0, NONE, n));
    }

    private static void pinsOfAnInstance() {
        range(6, "join(0, 2, 0, pin)", 0, 2, (x, n) -> x.join(0, 2, 0, n));
        range(6, "join(0, 2, 1, pin)", 0, 2, (x, n) -> x.join(0, 2, 1, n));
        range(7, "part(0, 0, pin)", 0, 2, (x, n) -> x.part(0, 0, n));
        range(7, "part(0, 1, pin)", 0, 2, (x, n) -> x.part(0, 1, n));
        range(8, "netOf(0, 0, pin)", 0, 2, (x, n) -> x.netOf(0, 0, n));
        range(8, "netOf(0, 1, pin)", 0, 2, (x, n) -> x.netOf(0, 1, n));
    }

    private static void placesOfPins() {
        range(10, "pin(0, 0, k, 0), five pins", 0, 4, (x, n) -> x.pin(0, 0, n, 0));
        range(10, "pin(0, 0, k, 1), five pins", 0, 4, (x, n) -> x.pin(0, 0, n, 1));
        range(10, "pin(0, 0, k, 2), five pins", 0, 4, (x, n) -> x.pin(0, 0, n, 2));
        range(10, "pin(0, 1, k, 0), one pin", 0, 0, (x, n) -> x.pin(0, 1, n, 0));
        range(10, "pin(0, 2, k, 0), no pin", 0, -1, (x, n) -> x.pin(0, 2, n, 0));
    }

    private static void whats() {
        range(10, "pin(0, 0, 0, what)", 0, 2, (x, n) -> x.pin(0, 0, 0, n));
        range(10, "pin(0, 0, 4, what)", 0, 2, (x, n) -> x.pin(0, 0, 4, n));
        range(18, "count(0, what)", 0, 5, (x, n) -> x.count(0, n));
        range(18, "count(4, what)", 0, 5, (x, n) -> x.count(4, n));
    }

    private static void placesBelowNought() {
        for (int number : SMALL) {
            says(14, "IndexOutOfBoundsException: also if i is below 0");
            beyond("path(0, 1, i)", SAMPLE, number, (x, n) -> x.path(0, 1, n));
            beyond("path(3, 3, i)", SAMPLE, number, (x, n) -> x.path(3, 3, n));
            says(15, "IndexOutOfBoundsException: also if k is below 0");
            beyond("doubled(0, k)", SAMPLE, number, (x, n) -> x.doubled(0, n));
            beyond("doubled(4, k)", SAMPLE, number, (x, n) -> x.doubled(4, n));
            says(16, "IndexOutOfBoundsException: also if k is below 0");
            beyond("open(0, k)", SAMPLE, number, (x, n) -> x.open(0, n));
            beyond("open(4, k)", SAMPLE, number, (x, n) -> x.open(4, n));
        }
    }

    /** Module 4 has nothing: neither own pins nor instances nor nets. */
    private static void partsOfAnEmptyModule() {
        range(7, "part(4, NONE, pin)", 0, -1, (x, n) -> x.part(4, NONE, n));
        range(8, "netOf(4, NONE, pin)", 0, -1, (x, n) -> x.netOf(4, NONE, n));
        range(8, "netOf(4, instance, 0)", 0, -1, (x, n) -> x.netOf(4, n, 0));
        range(9, "pins(4, net)", 0, -1, (x, n) -> x.pins(4, n));
        range(10, "pin(4, net, 0, 0)", 0, -1, (x, n) -> x.pin(4, n, 0, 0));
        range(14, "path(4, instance, 0)", 0, -1, (x, n) -> x.path(4, n, 0));
        range(19, "moduleOf(4, instance)", 0, -1, (x, n) -> x.moduleOf(4, n));
        Recipe withNet = SAMPLE.nets(1, 4);
        range(6, "join(4, 0, NONE, pin), no port", withNet, 0, -1, (x, n) -> x.join(4, 0, NONE, n));
        range(6, "join(4, 0, instance, 0), no instance", withNet, 0, -1, (x, n) -> x.join(4, 0, n, 0));
        Recipe withPort = SAMPLE.port(4, 1, true);
        range(6, "join(4, net, NONE, 0), no net", withPort, 0, -1, (x, n) -> x.join(4, n, NONE, 0));
        Recipe withInstance = new Recipe().modules(2).instance(0, 1).nets(1, 0);
        range(6, "join(0, 0, 0, pin), no pin", withInstance, 0, -1, (x, n) -> x.join(0, 0, 0, n));
        range(7, "part(0, 0, pin), no pin", withInstance, 0, -1, (x, n) -> x.part(0, 0, n));
        range(8, "netOf(0, 0, pin), no pin", withInstance, 0, -1, (x, n) -> x.netOf(0, 0, n));
    }

    /** 16 ports of 8 bits, 64 instances and 128 nets. */
    private static void rangesAtTheLimits() {
        Recipe full = new Recipe().modules(2).ports(16, 0, 8, false).ports(16, 1, 8, true)
                .instances(64, 0, 1).nets(128, 0);
        says(6, NO_SUCH);
        ends("join(0, net, 63, 127)", full, 127, (x, n) -> x.join(0, n, 63, 127));
        ends("join(0, 127, instance, 127)", full, 63, (x, n) -> x.join(0, 127, n, 127));
        ends("join(0, 127, 63, pin)", full, 127, (x, n) -> x.join(0, 127, 63, n));
        ends("join(0, 127, NONE, pin)", full, 127, (x, n) -> x.join(0, 127, NONE, n));
        says(7, NO_SUCH);
        ends("part(0, instance, 127)", full, 63, (x, n) -> x.part(0, n, 127));
        ends("part(0, 63, pin)", full, 127, (x, n) -> x.part(0, 63, n));
        ends("part(0, NONE, pin)", full, 127, (x, n) -> x.part(0, NONE, n));
        says(8, NO_SUCH);
        ends("netOf(0, instance, 127)", full, 63, (x, n) -> x.netOf(0, n, 127));
        ends("netOf(0, 63, pin)", full, 127, (x, n) -> x.netOf(0, 63, n));
        ends("netOf(0, NONE, pin)", full, 127, (x, n) -> x.netOf(0, NONE, n));
        says(9, NO_SUCH);
        ends("pins(0, net)", full, 127, (x, n) -> x.pins(0, n));
        says(14, NO_SUCH);
        ends("path(0, instance, 0)", full, 63, (x, n) -> x.path(0, n, 0));
        says(19, NO_SUCH);
        ends("moduleOf(0, instance)", full, 63, (x, n) -> x.moduleOf(0, n));
    }

    private static void ends(String name, Recipe recipe, int last, CallAt call) {
        within(name, recipe, 0, call);
        within(name, recipe, last - 1, call);
        within(name, recipe, last, call);
        for (int number : new int[] {LEAST, -2, last + 1, last + 2, GREATEST}) {
            beyond(name, recipe, number, call);
        }
    }
}
