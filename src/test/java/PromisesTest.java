/** Promise by promise: ordinary inputs, the edges that the document names, and wrong inputs. */
public final class PromisesTest {
    private static final int NONE = DesignTrees.NONE;
    private static final int[] WRONG = {-1, Integer.MIN_VALUE, Integer.MAX_VALUE};

    private static final String INDEX = "IndexOutOfBoundsException";
    private static final String STATE = "IllegalStateException";
    private static final String ARGUMENT = "IllegalArgumentException";
    private static final String UNSUPPORTED = "UnsupportedOperationException";

    private static int wrong = 0;

    private interface Call {
        Object answer();
    }

    /** Answers are held against each other as texts: a number, true, false or an exception's name. */
    private static void due(int promise, String what, Object want, Call call) {
        String got;
        try {
            got = String.valueOf(call.answer());
        } catch (RuntimeException e) {
            got = e.getClass().getSimpleName();
        }
        if (!got.equals(String.valueOf(want))) {
            wrong++;
            System.out.println("promise " + promise + ": " + what + " answered " + got + ", due is " + want);
        }
    }

    public static void main(String[] args) {
        newObject();
        moduleCalls();
        portCalls();
        portOrder();
        instanceCalls();
        instanceLimits();
        netCalls();
        joinCalls();
        partCalls();
        netOfCalls();
        pinsCalls();
        pinCalls();
        copyCalls();
        copyPorts();
        sharedCalls();
        flatOrder();
        flatNetsThroughModules();
        flatOfLeaf();
        flatInstanceLimit();
        flatNetLimit();
        flatOccurrenceLimit();
        flatThrowOrder();
        flatDeep();
        pathCalls();
        doubledCalls();
        openCalls();
        alikeCalls();
        alikeThroughInstances();
        countCalls();
        countManyLeaves();
        moduleOfCalls();
        modulesCalls();
        kindsCalls();
        clearCalls();
        System.out.println(wrong == 0 ? "all promises hold" : wrong + " answers are not as due");
        if (wrong != 0) {
            System.exit(1);
        }
    }

    private static DesignTrees withModules(int n) {
        DesignTrees x = new DesignTrees();
        for (int i = 0; i < n; i++) {
            x.module();
        }
        return x;
    }

    private static void addInstances(DesignTrees x, int module, int of, int n) {
        for (int i = 0; i < n; i++) {
            x.instance(module, of);
        }
    }

    private static void addNets(DesignTrees x, int module, int n) {
        for (int i = 0; i < n; i++) {
            x.net(module);
        }
    }

    /** Module 0: in 2 bits, out 1 bit, a leaf. Module 1: in 1 bit, out 3 bits, two instances of 0, four nets. */
    private static DesignTrees small() {
        DesignTrees x = withModules(2);
        x.port(0, 2, false);
        x.port(0, 1, true);
        x.port(1, 1, false);
        x.port(1, 3, true);
        addInstances(x, 1, 0, 2);
        addNets(x, 1, 4);
        return x;
    }

    private static void newObject() {
        DesignTrees x = new DesignTrees();
        due(1, "modules() of a new object", 0, () -> x.modules());
        due(1, "kinds() of a new object", 0, () -> x.kinds());
        due(1, "count(0, 0) of a new object", INDEX, () -> x.count(0, 0));
        due(1, "NONE", -1, () -> DesignTrees.NONE);
        DesignTrees other = withModules(3);
        due(1, "modules() beside another object", 0, () -> x.modules());
        due(1, "modules() of the other object", 3, () -> other.modules());
    }

    private static void moduleCalls() {
        DesignTrees x = new DesignTrees();
        for (int i = 0; i < 24; i++) {
            due(2, "module()", i, () -> x.module());
        }
        due(2, "module() beyond 24", STATE, () -> x.module());
        due(2, "modules() after it threw", 24, () -> x.modules());
        for (int what = 0; what < 5; what++) {
            int w = what;
            due(2, "count(23, " + w + ") of a module without anything", 0, () -> x.count(23, w));
        }
    }

    private static void portCalls() {
        DesignTrees x = withModules(3);
        due(3, "port of width 1", 0, () -> x.port(0, 1, false));
        due(3, "port of width 8", 1, () -> x.port(0, 8, true));
        due(3, "pins of both", 9, () -> x.count(0, 3));
        due(3, "ports", 2, () -> x.count(0, 0));
        for (int width : new int[] {0, 9, -1, Integer.MIN_VALUE, Integer.MAX_VALUE}) {
            due(3, "port of width " + width, ARGUMENT, () -> x.port(0, width, true));
        }
        due(3, "ports after it threw", 2, () -> x.count(0, 0));
        due(3, "port of no module", INDEX, () -> x.port(3, 0, true));
        for (int module : WRONG) {
            due(3, "port of module " + module, INDEX, () -> x.port(module, 1, true));
        }
        for (int i = 0; i < 16; i++) {
            due(3, "port " + i, i, () -> x.port(1, 8, true));
        }
        due(3, "port beyond 16", STATE, () -> x.port(1, 1, true));
        due(3, "port beyond 16, no such width", STATE, () -> x.port(1, 9, true));
        due(3, "pins of 16 ports", 128, () -> x.count(1, 3));
        x.net(1);
        due(3, "join of the last pin", true, () -> x.join(1, 0, NONE, 127));
        due(3, "join behind the last pin", INDEX, () -> x.join(1, 0, NONE, 128));
    }

    private static void portOrder() {
        DesignTrees x = withModules(4);
        x.instance(0, 1);
        due(3, "port of a module with an instance in it", 0, () -> x.port(0, 1, true));
        due(3, "port of a module that there is an instance of", STATE, () -> x.port(1, 1, true));
        due(3, "the same, no such width", STATE, () -> x.port(1, 0, true));
        x.instance(2, 2);
        due(3, "port when an instance was refused", 0, () -> x.port(2, 1, true));
        int copy = x.copy(1);
        due(3, "port of a copy of a module that there is an instance of", 0, () -> x.port(copy, 1, true));
        x.clear();
        x.module();
        x.module();
        due(3, "port after clear", 0, () -> x.port(1, 1, true));
    }

    private static void instanceCalls() {
        DesignTrees x = withModules(4);
        due(4, "instance(0, 1)", 0, () -> x.instance(0, 1));
        due(4, "instance(0, 1) again", 1, () -> x.instance(0, 1));
        due(4, "instance(1, 2)", 0, () -> x.instance(1, 2));
        due(4, "instance of itself", NONE, () -> x.instance(3, 3));
        due(4, "instance in itself over one", NONE, () -> x.instance(1, 0));
        due(4, "instance in itself over two", NONE, () -> x.instance(2, 0));
        due(4, "instances after they were refused", 0, () -> x.count(2, 1));
        due(4, "instance of one that is below already", 2, () -> x.instance(0, 2));
        int copy = x.copy(0);
        due(4, "instance of a copy", 3, () -> x.instance(0, copy));
        due(4, "instance of the one that holds the copy", NONE, () -> x.instance(copy, 0));
        due(4, "instance in a module that is not there", INDEX, () -> x.instance(5, 0));
        due(4, "instance of a module that is not there", INDEX, () -> x.instance(0, 5));
        for (int module : WRONG) {
            due(4, "instance in " + module, INDEX, () -> x.instance(module, 0));
            due(4, "instance of " + module, INDEX, () -> x.instance(0, module));
        }
        due(4, "instances after they threw", 4, () -> x.count(0, 1));
    }

    private static void instanceLimits() {
        DesignTrees x = withModules(2);
        addInstances(x, 0, 1, 63);
        due(4, "the last instance", 63, () -> x.instance(0, 1));
        due(4, "an instance beyond 64", STATE, () -> x.instance(0, 1));
        due(4, "beyond 64, and in itself", STATE, () -> x.instance(0, 0));
        due(4, "beyond 64, of no module", INDEX, () -> x.instance(0, 2));
        due(4, "instances after it threw", 64, () -> x.count(0, 1));
        due(4, "in itself, the other way", NONE, () -> x.instance(1, 0));
    }

    private static void netCalls() {
        DesignTrees x = withModules(2);
        for (int i = 0; i < 128; i++) {
            due(5, "net " + i, i, () -> x.net(0));
        }
        due(5, "a net beyond 128", STATE, () -> x.net(0));
        due(5, "nets after it threw", 128, () -> x.count(0, 2));
        due(5, "a net of another module", 0, () -> x.net(1));
        due(5, "pins of a new net", 0, () -> x.pins(1, 0));
        due(5, "a net of no module", INDEX, () -> x.net(2));
        for (int module : WRONG) {
            due(5, "a net of module " + module, INDEX, () -> x.net(module));
        }
    }

    private static void joinCalls() {
        DesignTrees x = small();
        due(6, "join of an own pin", true, () -> x.join(1, 0, NONE, 3));
        due(6, "join again", false, () -> x.join(1, 0, NONE, 3));
        due(6, "join of an instance's pin", true, () -> x.join(1, 0, 1, 2));
        due(6, "pins of the net", 2, () -> x.pins(1, 0));
        due(6, "join into another net", true, () -> x.join(1, 3, 1, 2));
        due(6, "pins of the net it was in", 1, () -> x.pins(1, 0));
        due(6, "pins of the net it is in", 1, () -> x.pins(1, 3));
        due(6, "the same pin of the other instance", NONE, () -> x.netOf(1, 0, 2));
        due(6, "join in no module", INDEX, () -> x.join(2, 0, NONE, 0));
        due(6, "join into no net", INDEX, () -> x.join(1, 4, NONE, 0));
        due(6, "join of no instance", INDEX, () -> x.join(1, 0, 2, 0));
        due(6, "join of no instance below NONE", INDEX, () -> x.join(1, 0, -2, 0));
        due(6, "join of no own pin", INDEX, () -> x.join(1, 0, NONE, 4));
        due(6, "join of no pin", INDEX, () -> x.join(1, 0, 0, 3));
        for (int number : WRONG) {
            due(6, "join in module " + number, INDEX, () -> x.join(number, 0, NONE, 0));
            due(6, "join into net " + number, INDEX, () -> x.join(1, number, NONE, 0));
            due(6, "join of own pin " + number, INDEX, () -> x.join(1, 0, NONE, number));
            due(6, "join of pin " + number, INDEX, () -> x.join(1, 0, 0, number));
        }
        due(6, "own pin 0 after it threw", NONE, () -> x.netOf(1, NONE, 0));
    }

    private static void partCalls() {
        DesignTrees x = small();
        x.join(1, 2, NONE, 1);
        x.join(1, 2, 0, 1);
        due(7, "part of a pin in no net", false, () -> x.part(1, NONE, 0));
        due(7, "part of an own pin", true, () -> x.part(1, NONE, 1));
        due(7, "part again", false, () -> x.part(1, NONE, 1));
        due(7, "pins after part", 1, () -> x.pins(1, 2));
        due(7, "part of an instance's pin", true, () -> x.part(1, 0, 1));
        due(7, "netOf after part", NONE, () -> x.netOf(1, 0, 1));
        due(7, "part in no module", INDEX, () -> x.part(2, NONE, 0));
        due(7, "part of no instance", INDEX, () -> x.part(1, 2, 0));
        due(7, "part of no instance below NONE", INDEX, () -> x.part(1, -2, 0));
        due(7, "part of no own pin", INDEX, () -> x.part(1, NONE, 4));
        due(7, "part of no pin", INDEX, () -> x.part(1, 0, 3));
        for (int number : WRONG) {
            due(7, "part in module " + number, INDEX, () -> x.part(number, NONE, 0));
            due(7, "part of pin " + number, INDEX, () -> x.part(1, 0, number));
        }
    }

    private static void netOfCalls() {
        DesignTrees x = small();
        x.join(1, 3, NONE, 0);
        x.join(1, 1, 1, 0);
        due(8, "netOf an own pin", 3, () -> x.netOf(1, NONE, 0));
        due(8, "netOf an instance's pin", 1, () -> x.netOf(1, 1, 0));
        due(8, "netOf a pin in no net", NONE, () -> x.netOf(1, 0, 0));
        due(8, "netOf the last own pin", NONE, () -> x.netOf(1, NONE, 3));
        due(8, "netOf no own pin", INDEX, () -> x.netOf(1, NONE, 4));
        due(8, "netOf no pin", INDEX, () -> x.netOf(1, 1, 3));
        due(8, "netOf no instance", INDEX, () -> x.netOf(1, 2, 0));
        due(8, "netOf no instance below NONE", INDEX, () -> x.netOf(1, -2, 0));
        due(8, "netOf in no module", INDEX, () -> x.netOf(2, NONE, 0));
        for (int number : WRONG) {
            due(8, "netOf in module " + number, INDEX, () -> x.netOf(number, NONE, 0));
            due(8, "netOf pin " + number, INDEX, () -> x.netOf(1, 1, number));
        }
    }

    private static void pinsCalls() {
        DesignTrees x = small();
        for (int pin = 0; pin < 3; pin++) {
            x.join(1, 1, 0, pin);
            x.join(1, 1, 1, pin);
            x.join(1, 1, NONE, pin);
        }
        due(9, "pins of a full net", 9, () -> x.pins(1, 1));
        due(9, "pins of an empty net", 0, () -> x.pins(1, 0));
        due(9, "pins of no net", INDEX, () -> x.pins(1, 4));
        due(9, "pins in no module", INDEX, () -> x.pins(2, 0));
        for (int number : WRONG) {
            due(9, "pins of net " + number, INDEX, () -> x.pins(1, number));
            due(9, "pins in module " + number, INDEX, () -> x.pins(number, 0));
        }
    }

    private static void pinCalls() {
        DesignTrees x = small();
        int[][] joined = {{1, 2}, {0, 2}, {1, 0}, {NONE, 3}, {0, 1}, {NONE, 0}};
        for (int[] at : joined) {
            x.join(1, 2, at[0], at[1]);
        }
        int[][] wanted = {{NONE, 0, 1}, {NONE, 3, 0}, {0, 1, 0}, {0, 2, 1}, {1, 0, 0}, {1, 2, 1}};
        for (int k = 0; k < wanted.length; k++) {
            for (int what = 0; what < 3; what++) {
                int place = k;
                int w = what;
                due(10, "pin(1, 2, " + k + ", " + what + ")", wanted[k][what], () -> x.pin(1, 2, place, w));
            }
        }
        due(10, "pin behind the last one", INDEX, () -> x.pin(1, 2, 6, 0));
        due(10, "pin of an empty net", INDEX, () -> x.pin(1, 0, 0, 0));
        due(10, "pin, no such what", INDEX, () -> x.pin(1, 2, 0, 3));
        due(10, "pin of no net", INDEX, () -> x.pin(1, 4, 0, 0));
        due(10, "pin in no module", INDEX, () -> x.pin(2, 0, 0, 0));
        for (int number : WRONG) {
            due(10, "pin in module " + number, INDEX, () -> x.pin(number, 2, 0, 0));
            due(10, "pin of net " + number, INDEX, () -> x.pin(1, number, 0, 0));
            due(10, "pin at " + number, INDEX, () -> x.pin(1, 2, number, 0));
            due(10, "pin, what " + number, INDEX, () -> x.pin(1, 2, 0, number));
        }
    }

    private static void copyCalls() {
        DesignTrees x = small();
        x.join(1, 3, NONE, 2);
        x.join(1, 0, 1, 1);
        due(11, "copy(1)", 2, () -> x.copy(1));
        due(11, "ports of the copy", 2, () -> x.count(2, 0));
        due(11, "instances of the copy", 2, () -> x.count(2, 1));
        due(11, "nets of the copy", 4, () -> x.count(2, 2));
        due(11, "pins of the copy", 4, () -> x.count(2, 3));
        due(11, "netOf an own pin of the copy", 3, () -> x.netOf(2, NONE, 2));
        due(11, "netOf a pin in the copy", 0, () -> x.netOf(2, 1, 1));
        due(11, "alike", true, () -> x.alike(1, 2));
        x.join(1, 2, 0, 0);
        due(11, "the first one's change in the copy", NONE, () -> x.netOf(2, 0, 0));
        x.join(2, 1, 1, 1);
        due(11, "the copy's change in the first one", 0, () -> x.netOf(1, 1, 1));
        x.instance(2, 0);
        x.net(2);
        due(11, "instances of the first one", 2, () -> x.count(1, 1));
        due(11, "nets of the first one", 4, () -> x.count(1, 2));
        due(11, "copy of no module", INDEX, () -> x.copy(3));
        for (int module : WRONG) {
            due(11, "copy of module " + module, INDEX, () -> x.copy(module));
        }
        for (int i = 3; i < 24; i++) {
            due(11, "copy", i, () -> x.copy(0));
        }
        due(11, "copy beyond 24", STATE, () -> x.copy(0));
        due(11, "copy beyond 24 of no module", INDEX, () -> x.copy(24));
        due(11, "modules after it threw", 24, () -> x.modules());
    }

    private static void copyPorts() {
        DesignTrees x = withModules(1);
        x.port(0, 1, false);
        x.net(0);
        x.join(0, 0, NONE, 0);
        x.copy(0);
        due(11, "a port of the copy", 1, () -> x.port(1, 2, true));
        due(11, "ports of the first one", 1, () -> x.count(0, 0));
        due(11, "a port more still shares", true, () -> x.shared(0, 1));
        due(11, "a port more is not alike", false, () -> x.alike(0, 1));
        due(11, "the copy's new pin", NONE, () -> x.netOf(1, NONE, 2));
        due(11, "the first one has no such pin", INDEX, () -> x.netOf(0, NONE, 2));
        due(11, "a port of the first one", 1, () -> x.port(0, 2, false));
        due(11, "join of the copy's new pin", true, () -> x.join(1, 0, NONE, 2));
        due(11, "it does not share any more", false, () -> x.shared(0, 1));
        due(11, "pins of the first one's net", 1, () -> x.pins(0, 0));
        due(11, "the new pin is no driver", 0, () -> x.pin(1, 0, 1, 2));
        x.join(0, 0, NONE, 2);
        due(11, "the first one's is one", 1, () -> x.pin(0, 0, 1, 2));
    }

    private static void sharedCalls() {
        DesignTrees x = small();
        x.join(1, 0, 0, 0);
        due(12, "with itself", true, () -> x.shared(1, 1));
        due(12, "with another one", false, () -> x.shared(0, 1));
        x.copy(1);
        x.copy(2);
        x.copy(1);
        x.copy(4);
        due(12, "with a copy's copy", true, () -> x.shared(1, 3));
        due(12, "among copies", true, () -> x.shared(3, 5));
        x.join(2, 0, 0, 0);
        x.part(2, 0, 1);
        x.instance(2, 2);
        due(12, "when nothing came of it", true, () -> x.shared(1, 2));
        x.join(2, 1, 0, 0);
        due(12, "after a pin came into another net", false, () -> x.shared(2, 1));
        due(12, "the others after it", true, () -> x.shared(1, 5));
        x.part(1, 0, 0);
        due(12, "after a pin came out of a net", false, () -> x.shared(1, 5));
        x.net(3);
        due(12, "after a net more", false, () -> x.shared(3, 5));
        due(12, "the last two", true, () -> x.shared(4, 5));
        x.instance(4, 0);
        due(12, "after an instance more", false, () -> x.shared(4, 5));
        due(12, "a flat one", false, () -> x.shared(0, x.flat(0)));
        due(12, "with no module", INDEX, () -> x.shared(0, 7));
        due(12, "of no module", INDEX, () -> x.shared(7, 0));
        for (int module : WRONG) {
            due(12, "with module " + module, INDEX, () -> x.shared(0, module));
            due(12, "of module " + module, INDEX, () -> x.shared(module, 0));
        }
    }

    /** Leaves 0 and 1; 2 has (0, 1); 3 has (1, 2, 0); 4, the top, has (3, 1, 2). */
    private static void flatOrder() {
        DesignTrees x = withModules(5);
        for (int module = 0; module < 5; module++) {
            x.port(module, 1, module % 2 == 0);
        }
        int[][] instances = {{2, 0}, {2, 1}, {3, 1}, {3, 2}, {3, 0}, {4, 3}, {4, 1}, {4, 2}};
        for (int[] pair : instances) {
            x.instance(pair[0], pair[1]);
        }
        for (int module = 2; module < 5; module++) {
            x.net(module);
        }
        x.join(2, 0, 0, 0);
        x.join(3, 0, 2, 0);
        x.join(4, 0, 1, 0);
        due(13, "flat(4)", 5, () -> x.flat(4));
        int[] of = {1, 0, 1, 0, 1, 0, 1};
        int[][] ways = {{0, 0}, {0, 1, 0}, {0, 1, 1}, {0, 2}, {1}, {2, 0}, {2, 1}};
        int[] nets = {NONE, 2, NONE, 1, 0, 3, NONE};
        due(13, "instances of the flat one", 7, () -> x.count(5, 1));
        due(13, "nets of the flat one", 4, () -> x.count(5, 2));
        due(13, "ports of the flat one", 1, () -> x.count(5, 0));
        due(13, "layers of the flat one", 1, () -> x.count(5, 4));
        for (int i = 0; i < of.length; i++) {
            int instance = i;
            due(13, "moduleOf(5, " + i + ")", of[i], () -> x.moduleOf(5, instance));
            due(13, "netOf(5, " + i + ", 0)", nets[i], () -> x.netOf(5, instance, 0));
            for (int j = 0; j <= ways[i].length; j++) {
                int place = j;
                int want = j < ways[i].length ? ways[i][j] : NONE;
                due(14, "path(5, " + i + ", " + j + ")", want, () -> x.path(5, instance, place));
            }
        }
        due(13, "the top is as it was", 3, () -> x.count(4, 1));
    }

    /** Two nets of the top that meet inside an instance are one, and so down to what lies below. */
    private static void flatNetsThroughModules() {
        DesignTrees x = withModules(4);
        x.port(0, 1, true);
        x.port(1, 3, false);
        x.port(2, 2, false);
        x.port(3, 4, true);
        x.instance(1, 0);
        addNets(x, 1, 2);
        x.join(1, 1, NONE, 0);
        x.join(1, 1, NONE, 1);
        x.join(1, 1, 0, 0);
        x.instance(2, 1);
        addNets(x, 2, 3);
        x.join(2, 2, NONE, 0);
        x.join(2, 1, NONE, 1);
        x.join(2, 2, 0, 0);
        x.join(2, 1, 0, 1);
        x.join(2, 0, 0, 2);
        x.instance(3, 2);
        x.instance(3, 0);
        addNets(x, 3, 4);
        x.join(3, 3, NONE, 2);
        x.join(3, 1, NONE, 1);
        x.join(3, 3, 0, 0);
        x.join(3, 1, 0, 1);
        x.join(3, 0, 1, 0);
        int f = x.flat(3);
        due(13, "nets: 0, 1 with 3 and all below, 2, 0 of the next, 0 of the last", 5, () -> x.count(f, 2));
        due(13, "own pin 2", 1, () -> x.netOf(f, NONE, 2));
        due(13, "own pin 1", 1, () -> x.netOf(f, NONE, 1));
        due(13, "own pin 0", NONE, () -> x.netOf(f, NONE, 0));
        due(13, "the lowest leaf's pin", 1, () -> x.netOf(f, 0, 0));
        due(13, "the top's leaf's pin", 0, () -> x.netOf(f, 1, 0));
        due(13, "pins of the net that is one", 3, () -> x.pins(f, 1));
        due(13, "pins of an empty net", 0, () -> x.pins(f, 4));
    }

    private static void flatOfLeaf() {
        DesignTrees x = withModules(2);
        x.port(0, 2, false);
        addNets(x, 0, 128);
        x.join(0, 127, NONE, 1);
        due(13, "flat of a leaf", 2, () -> x.flat(0));
        due(13, "its nets", 128, () -> x.count(2, 2));
        due(13, "its own pin", 127, () -> x.netOf(2, NONE, 1));
        due(13, "its instances", 0, () -> x.count(2, 1));
        due(13, "it is alike", true, () -> x.alike(0, 2));
        addInstances(x, 1, 0, 24);
        due(13, "flat with leaves that have 3072 nets", 3, () -> x.flat(1));
        due(13, "a leaf's nets are none of the flat one's", 0, () -> x.count(3, 2));
        due(13, "flat of no module", INDEX, () -> x.flat(4));
        for (int module : WRONG) {
            due(13, "flat of module " + module, INDEX, () -> x.flat(module));
        }
    }

    private static void flatInstanceLimit() {
        DesignTrees x = withModules(3);
        addInstances(x, 1, 0, 8);
        addInstances(x, 2, 1, 8);
        due(13, "flat with 64 instances", 3, () -> x.flat(2));
        due(13, "its instances", 64, () -> x.count(3, 1));
        due(14, "the last one's way", 7, () -> x.path(3, 63, 1));
        x.instance(2, 0);
        due(13, "flat with 65 instances", UNSUPPORTED, () -> x.flat(2));
        due(13, "modules after it threw", 4, () -> x.modules());
        due(13, "flat of the flat one", 4, () -> x.flat(3));
    }

    private static void flatNetLimit() {
        DesignTrees x = withModules(3);
        x.port(1, 1, true);
        x.instance(1, 0);
        addNets(x, 1, 64);
        x.join(1, 0, NONE, 0);
        addInstances(x, 2, 1, 2);
        due(13, "flat with 128 nets", 3, () -> x.flat(2));
        due(13, "its nets", 128, () -> x.count(3, 2));
        x.net(2);
        due(13, "flat with 129 nets", UNSUPPORTED, () -> x.flat(2));
        due(13, "modules after it threw", 4, () -> x.modules());
        x.join(2, 0, 0, 0);
        due(13, "flat with 128 nets, one of two", 4, () -> x.flat(2));
        due(13, "its nets", 128, () -> x.count(4, 2));
        x.join(2, 0, 1, 0);
        due(13, "flat with 127 nets, one of three", 5, () -> x.flat(2));
        due(13, "its nets", 127, () -> x.count(5, 2));
    }

    /** Module 2 has 49 nets that are one with a net in module 1: 50 in each of 60 occurrences of both. */
    private static void flatOccurrenceLimit() {
        DesignTrees x = withModules(4);
        for (int i = 0; i < 7; i++) {
            x.port(1, i < 6 ? 8 : 1, false);
        }
        x.instance(1, 0);
        x.net(1);
        x.instance(2, 1);
        addNets(x, 2, 49);
        for (int pin = 0; pin < 49; pin++) {
            x.join(1, 0, NONE, pin);
            x.join(2, 48 - pin, 0, pin);
        }
        addInstances(x, 3, 2, 60);
        due(13, "flat with 3000 nets of occurrences", 4, () -> x.flat(3));
        due(13, "nets that these are", 60, () -> x.count(4, 2));
        x.net(3);
        due(13, "flat with 3001 nets of occurrences", UNSUPPORTED, () -> x.flat(3));
        due(13, "modules after it threw", 5, () -> x.modules());
    }

    private static void flatThrowOrder() {
        DesignTrees x = withModules(24);
        addInstances(x, 1, 0, 9);
        addInstances(x, 2, 1, 9);
        due(13, "beyond 24 and too large", STATE, () -> x.flat(2));
        due(13, "beyond 24 of no module", INDEX, () -> x.flat(24));
        due(13, "beyond 24", STATE, () -> x.flat(0));
    }

    /** A chain of 23 modules, each in the next; 0 is the lowest. */
    private static void flatDeep() {
        DesignTrees x = withModules(23);
        for (int module = 0; module < 23; module++) {
            x.port(module, 1, false);
        }
        for (int module = 1; module < 23; module++) {
            x.instance(module, module - 1);
            x.net(module);
            x.join(module, 0, NONE, 0);
            x.join(module, 0, 0, 0);
        }
        due(13, "flat of a deep one", 23, () -> x.flat(22));
        due(13, "its nets", 1, () -> x.count(23, 2));
        due(13, "its leaf's pin", 0, () -> x.netOf(23, 0, 0));
        due(13, "its own pin", 0, () -> x.netOf(23, NONE, 0));
        due(14, "the way's last number", 0, () -> x.path(23, 0, 21));
        due(14, "behind the way's last number", NONE, () -> x.path(23, 0, 22));
        due(18, "layers below", 22, () -> x.count(22, 4));
    }

    private static void pathCalls() {
        DesignTrees x = withModules(3);
        addInstances(x, 1, 0, 3);
        addInstances(x, 2, 1, 2);
        int f = x.flat(2);
        int copy = x.copy(f);
        due(14, "an instance that was made one by one", 2, () -> x.path(1, 2, 0));
        due(14, "behind it", NONE, () -> x.path(1, 2, 1));
        due(14, "far behind it", NONE, () -> x.path(1, 2, Integer.MAX_VALUE));
        due(14, "a copy's way", 1, () -> x.path(copy, 4, 0));
        due(14, "a copy's way, next", 1, () -> x.path(copy, 4, 1));
        due(14, "one more in a flat one", 6, () -> x.instance(f, 0));
        due(14, "its own number", 6, () -> x.path(f, 6, 0));
        due(14, "its own number alone", NONE, () -> x.path(f, 6, 1));
        due(14, "the others there keep their ways", 1, () -> x.path(f, 4, 0));
        due(14, "and all of them", 2, () -> x.path(f, 5, 1));
        due(14, "the copy still has its ways", 2, () -> x.path(copy, 5, 1));
        x.net(copy);
        due(14, "also when it was changed", 2, () -> x.path(copy, 5, 1));
        int again = x.flat(copy);
        due(14, "a flat one of a flat one: from the new top", 5, () -> x.path(again, 5, 0));
        due(14, "and nothing behind", NONE, () -> x.path(again, 5, 1));
        due(14, "below 0", INDEX, () -> x.path(1, 0, -1));
        due(14, "far below 0", INDEX, () -> x.path(1, 0, Integer.MIN_VALUE));
        due(14, "no instance", INDEX, () -> x.path(1, 3, 0));
        due(14, "no module", INDEX, () -> x.path(6, 0, 0));
        for (int number : WRONG) {
            due(14, "path in module " + number, INDEX, () -> x.path(number, 0, 0));
            due(14, "path of instance " + number, INDEX, () -> x.path(1, number, 0));
        }
    }

    private static void doubledCalls() {
        DesignTrees x = small();
        x.join(1, 1, NONE, 0);
        x.join(1, 1, 0, 2);
        x.join(1, 2, 1, 2);
        x.join(1, 2, NONE, 1);
        due(15, "an in port and an instance's out port", 1, () -> x.doubled(1, 0));
        due(15, "no second one", NONE, () -> x.doubled(1, 1));
        x.instance(1, 0);
        x.join(1, 3, 0, 2);
        x.join(1, 3, 2, 2);
        due(15, "it moved to another net", 3, () -> x.doubled(1, 0));
        x.join(1, 2, NONE, 0);
        due(15, "the first of two", 2, () -> x.doubled(1, 0));
        due(15, "the second of two", 3, () -> x.doubled(1, 1));
        due(15, "no third one", NONE, () -> x.doubled(1, 2));
        due(15, "far behind", NONE, () -> x.doubled(1, Integer.MAX_VALUE));
        due(15, "below 0", INDEX, () -> x.doubled(1, -1));
        due(15, "far below 0", INDEX, () -> x.doubled(1, Integer.MIN_VALUE));
        due(15, "no module", INDEX, () -> x.doubled(2, 0));
        for (int module : WRONG) {
            due(15, "module " + module, INDEX, () -> x.doubled(module, 0));
        }
    }

    private static void openCalls() {
        DesignTrees x = small();
        due(16, "nets without pins are not open", NONE, () -> x.open(1, 0));
        x.join(1, 1, NONE, 1);
        x.join(1, 3, 0, 0);
        x.join(1, 2, NONE, 0);
        x.join(1, 0, 1, 2);
        due(16, "an own out pin alone", 1, () -> x.open(1, 0));
        due(16, "an instance's in pin alone", 3, () -> x.open(1, 1));
        due(16, "no third one", NONE, () -> x.open(1, 2));
        x.join(1, 1, 0, 2);
        due(16, "one is driven now", 3, () -> x.open(1, 0));
        x.part(1, NONE, 0);
        x.join(1, 2, 1, 1);
        due(16, "one is not driven any more", 2, () -> x.open(1, 0));
        due(16, "far behind", NONE, () -> x.open(1, Integer.MAX_VALUE));
        due(16, "below 0", INDEX, () -> x.open(1, -1));
        due(16, "far below 0", INDEX, () -> x.open(1, Integer.MIN_VALUE));
        due(16, "no module", INDEX, () -> x.open(2, 0));
        for (int module : WRONG) {
            due(16, "module " + module, INDEX, () -> x.open(module, 0));
        }
    }

    private static void alikeCalls() {
        DesignTrees x = withModules(4);
        due(17, "with itself", true, () -> x.alike(0, 0));
        due(17, "two without anything", true, () -> x.alike(0, 1));
        x.port(0, 2, true);
        due(17, "a port more", false, () -> x.alike(0, 1));
        x.port(1, 2, false);
        due(17, "another way", false, () -> x.alike(0, 1));
        x.port(2, 1, true);
        x.port(3, 2, true);
        due(17, "another width", false, () -> x.alike(0, 2));
        due(17, "the same port", true, () -> x.alike(0, 3));
        x.port(2, 1, true);
        due(17, "the same pins of other ports", false, () -> x.alike(0, 2));
        x.net(0);
        due(17, "a net more", false, () -> x.alike(0, 3));
        x.net(3);
        due(17, "as many nets", true, () -> x.alike(0, 3));
        x.join(0, 0, NONE, 1);
        due(17, "a pin more", false, () -> x.alike(0, 3));
        x.join(3, 0, NONE, 0);
        due(17, "another pin", false, () -> x.alike(0, 3));
        x.join(3, 0, NONE, 1);
        x.part(3, NONE, 0);
        due(17, "the same pin", true, () -> x.alike(0, 3));
        due(17, "the other way round", true, () -> x.alike(3, 0));
        due(17, "with no module", INDEX, () -> x.alike(0, 4));
        due(17, "of no module", INDEX, () -> x.alike(4, 0));
        for (int module : WRONG) {
            due(17, "with module " + module, INDEX, () -> x.alike(0, module));
            due(17, "of module " + module, INDEX, () -> x.alike(module, 0));
        }
    }

    private static void alikeThroughInstances() {
        DesignTrees x = withModules(6);
        x.port(0, 1, true);
        x.port(1, 1, true);
        x.instance(2, 0);
        due(17, "an instance more", false, () -> x.alike(2, 3));
        x.instance(3, 1);
        due(17, "instances of alike ones", true, () -> x.alike(2, 3));
        x.instance(4, 2);
        x.instance(5, 3);
        due(17, "alike two layers up", true, () -> x.alike(4, 5));
        x.net(1);
        due(17, "not alike two layers up", false, () -> x.alike(4, 5));
        x.net(0);
        due(17, "alike again", true, () -> x.alike(4, 5));
        x.net(2);
        x.net(3);
        x.join(2, 0, 0, 0);
        due(17, "an instance's pin more", false, () -> x.alike(2, 3));
        x.join(3, 0, 0, 0);
        due(17, "the same pin of an instance", true, () -> x.alike(4, 5));
        x.clear();
        for (int i = 0; i < 3; i++) {
            x.module();
        }
        addInstances(x, 1, 0, 3);
        int f = x.flat(x.instance(2, 1) == 0 ? 2 : NONE);
        due(17, "ways of instances are not looked at", true, () -> x.alike(1, f));
    }

    private static void countCalls() {
        DesignTrees x = small();
        x.net(1);
        int[] wanted = {2, 2, 5, 4, 1, 2};
        for (int what = 0; what < 6; what++) {
            int w = what;
            due(18, "count(1, " + what + ")", wanted[what], () -> x.count(1, w));
        }
        int[] leaf = {2, 0, 0, 3, 0, 1};
        for (int what = 0; what < 6; what++) {
            int w = what;
            due(18, "count(0, " + what + ")", leaf[what], () -> x.count(0, w));
        }
        x.module();
        x.instance(2, 1);
        x.instance(2, 0);
        x.instance(2, 1);
        due(18, "layers below", 2, () -> x.count(2, 4));
        due(18, "leaves below", 5, () -> x.count(2, 5));
        x.module();
        x.instance(0, 3);
        due(18, "layers after a leaf became none", 3, () -> x.count(2, 4));
        due(18, "leaves after a leaf became none", 5, () -> x.count(2, 5));
        due(18, "no such what", INDEX, () -> x.count(1, 6));
        due(18, "no module", INDEX, () -> x.count(4, 0));
        for (int number : WRONG) {
            due(18, "count of module " + number, INDEX, () -> x.count(number, 0));
            due(18, "count, what " + number, INDEX, () -> x.count(0, number));
        }
    }

    /** Twenty in each of twenty-four: beyond any number that an int or a long could hold. */
    private static void countManyLeaves() {
        DesignTrees x = withModules(24);
        for (int module = 23; module > 0; module--) {
            addInstances(x, module - 1, module, 20);
        }
        due(18, "leaves of 20 * 20 * 20 * 20", 160000, () -> x.count(19, 5));
        due(18, "leaves are 1000000 at most", 1000000, () -> x.count(18, 5));
        due(18, "leaves of all", 1000000, () -> x.count(0, 5));
        due(18, "layers of all", 23, () -> x.count(0, 4));
        due(21, "kinds of all", 24, () -> x.kinds());
        due(17, "alike in all", false, () -> x.alike(0, 1));
        due(4, "in itself over all", NONE, () -> x.instance(23, 0));
        DesignTrees y = withModules(8);
        int[] factors = {10, 10, 10, 10, 10, 10};
        for (int i = 0; i < factors.length; i++) {
            addInstances(y, i + 1, i, factors[i]);
        }
        due(18, "just 1000000 leaves", 1000000, () -> y.count(6, 5));
        addInstances(y, 7, 5, 9);
        due(18, "900000 leaves", 900000, () -> y.count(7, 5));
    }

    private static void moduleOfCalls() {
        DesignTrees x = withModules(3);
        x.instance(0, 2);
        x.instance(0, 1);
        x.instance(0, 2);
        due(19, "moduleOf(0, 0)", 2, () -> x.moduleOf(0, 0));
        due(19, "moduleOf(0, 1)", 1, () -> x.moduleOf(0, 1));
        due(19, "moduleOf(0, 2)", 2, () -> x.moduleOf(0, 2));
        due(19, "no instance", INDEX, () -> x.moduleOf(0, 3));
        due(19, "no instance of a leaf", INDEX, () -> x.moduleOf(1, 0));
        due(19, "no module", INDEX, () -> x.moduleOf(3, 0));
        for (int number : WRONG) {
            due(19, "in module " + number, INDEX, () -> x.moduleOf(number, 0));
            due(19, "of instance " + number, INDEX, () -> x.moduleOf(0, number));
        }
    }

    private static void modulesCalls() {
        DesignTrees x = withModules(2);
        due(20, "after two", 2, () -> x.modules());
        x.copy(0);
        due(20, "after a copy", 3, () -> x.modules());
        x.flat(0);
        due(20, "after a flat one", 4, () -> x.modules());
        due(20, "a copy of none", INDEX, () -> x.copy(4));
        due(20, "after a call that threw", 4, () -> x.modules());
    }

    private static void kindsCalls() {
        DesignTrees x = withModules(6);
        due(21, "six without anything", 1, () -> x.kinds());
        x.port(1, 1, true);
        x.port(2, 1, true);
        due(21, "two with a port", 2, () -> x.kinds());
        x.instance(3, 1);
        x.instance(4, 2);
        due(21, "two with instances that are alike", 3, () -> x.kinds());
        x.instance(5, 0);
        due(21, "one with another instance", 4, () -> x.kinds());
        x.net(2);
        due(21, "what lies below is not alike any more", 6, () -> x.kinds());
        x.copy(5);
        due(21, "a copy is alike", 6, () -> x.kinds());
        x.port(6, 1, false);
        due(21, "a copy with another port is not", 7, () -> x.kinds());
    }

    private static void clearCalls() {
        DesignTrees x = small();
        x.copy(1);
        x.flat(1);
        x.clear();
        due(22, "modules", 0, () -> x.modules());
        due(22, "kinds", 0, () -> x.kinds());
        due(22, "module 0", INDEX, () -> x.count(0, 0));
        due(22, "the first module", 0, () -> x.module());
        for (int what = 0; what < 5; what++) {
            int w = what;
            due(22, "count(0, " + what + ")", 0, () -> x.count(0, w));
        }
        due(22, "a port of the first module", 0, () -> x.port(0, 1, true));
        due(22, "module 1", INDEX, () -> x.shared(0, 1));
        x.module();
        due(22, "nothing is shared", false, () -> x.shared(0, 1));
        x.clear();
        x.clear();
        due(22, "modules after clear of nothing", 0, () -> x.modules());
    }
}
