/** Laying out flat: nothing, just as much as there may be, one too many; and ways from the top. */
public final class FlatEdgesTest extends Checks {
    private static final String TOO_MANY_INSTANCES =
            "UnsupportedOperationException: it would have more than 64 instances";
    private static final String TOO_MANY_NETS = "UnsupportedOperationException: or 128 nets";
    private static final String TOO_MANY_NETS_IN_ALL =
            "UnsupportedOperationException: or all occurrences have more than 3000 nets together";

    public static void main(String[] args) {
        flatOfNothing();
        flatOfALeaf();
        flatOfAFlatOne();
        instancesInTheTop();
        instancesInOthers();
        instancesOverTheLimit();
        instancesThatWrapAround();
        netsOfTheTop();
        netsOfOccurrences();
        netsThatAreOne();
        netsOfLeavesAreNone();
        netsOfAllOccurrences();
        netsOfOneDeepChain();
        leafThatIsNoneAnyMore();
        orderOfInstances();
        orderOfNets();
        orderOfNetsThatAreOne();
        pinsThatMeetNothing();
        netsThroughManyModules();
        wayOfAnInstance();
        wayOfTheLastInstance();
        wayOfADeepInstance();
        end();
    }

    private static void fits(String what, Recipe recipe, int module, int instances, int nets) {
        int made = recipe.made().modules();
        due(what + ": its number", made, recipe, x -> x.flat(module));
        Recipe flat = recipe.flat(module);
        due(what + ": its instances", instances, flat, x -> x.count(made, 1));
        due(what + ": its nets", nets, flat, x -> x.count(made, 2));
        due(what + ": its ports", recipe.made().count(module, 0), flat, x -> x.count(made, 0));
        due(what + ": its pins", recipe.made().count(module, 3), flat, x -> x.count(made, 3));
        due(what + ": its layers", instances == 0 ? 0 : 1, flat, x -> x.count(made, 4));
        due(what + ": its leaves", Math.max(1, instances), flat, x -> x.count(made, 5));
    }

    private static void isTooMuch(String what, Recipe recipe, int module) {
        refused(what, UNSUPPORTED, recipe, x -> x.flat(module));
    }

    private static void flatOfNothing() {
        says(13, "A module LAID OUT FLAT is a new one with the same ports");
        fits("of a module without anything", new Recipe().modules(1), 0, 0, 0);
        fits("of a module with ports alone", new Recipe().modules(1).ports(16, 0, 8, true), 0, 0, 0);
        fits("of a module with an instance alone", new Recipe().modules(2).instance(1, 0), 1, 1, 0);
        sameModule("of a module with ports alone", new Recipe().modules(1).ports(16, 0, 8, true).flat(0), 0, 1);
    }

    private static void flatOfALeaf() {
        says(13, "OCCURRENCES of modules in it: the top");
        Recipe leaf = new Recipe().modules(1).port(0, 2, true).port(0, 2, false).nets(128, 0)
                .join(0, 127, NONE, 3).join(0, 0, NONE, 0);
        fits("of a leaf with 128 nets", leaf, 0, 0, 128);
        sameModule("of a leaf with 128 nets", leaf.flat(0), 0, 1);
        due("it is alike", true, leaf.flat(0), x -> x.alike(0, 1));
        due("it is not shared", false, leaf.flat(0), x -> x.shared(0, 1));
        due("a port of it is its own", 2, leaf.flat(0).port(1, 1, true), x -> x.count(0, 0));
    }

    private static void flatOfAFlatOne() {
        says(13, "A WAY of each is told: the numbers of the instances from the top down to it");
        Recipe sample = Recipe.sample().flat(3);
        fits("of a flat one", Recipe.sample(), 3, 4, 7);
        due("it is alike", true, sample, x -> x.alike(3, 6));
        due("the last one's way", 3, sample, x -> x.path(6, 3, 0));
        due("behind it", NONE, sample, x -> x.path(6, 3, 1));
    }

    private static void instancesInTheTop() {
        says(13, TOO_MANY_INSTANCES);
        for (int n : new int[] {1, 2, 63, 64}) {
            Recipe top = new Recipe().modules(2).instances(n, 1, 0);
            fits(n + " in the top", top, 1, n, 0);
            sameModule(n + " in the top", top.flat(1), 1, 2);
        }
    }

    private static void instancesInOthers() {
        says(13, TOO_MANY_INSTANCES);
        fits("63 as 7 * 9", Recipe.chain(7, 9), 2, 63, 0);
        fits("64 as 8 * 8", Recipe.chain(8, 8), 2, 64, 0);
        fits("64 as 64 * 1", Recipe.chain(64, 1), 2, 64, 0);
        fits("64 as 1 * 64", Recipe.chain(1, 64), 2, 64, 0);
        fits("64 as 2 * 2 * 2 * 2 * 2 * 2", Recipe.chain(2, 2, 2, 2, 2, 2), 6, 64, 0);
        fits("64 as 7 * 9 and one", Recipe.chain(7, 9).instance(2, 0), 2, 64, 0);
        isTooMuch("65 as 13 * 5", Recipe.chain(13, 5), 2);
        isTooMuch("65 as 64 and one", Recipe.chain(64, 1).instance(2, 0), 2);
        isTooMuch("65 as one and 64", Recipe.chain(64).modules(1).instance(2, 0).instance(2, 1), 2);
        isTooMuch("65 as 8 * 8 and one", Recipe.chain(8, 8).instance(2, 0), 2);
        isTooMuch("66 as 8 * 8 and two", Recipe.chain(8, 8).instances(2, 2, 0), 2);
        isTooMuch("128 as 64 * 2", Recipe.chain(64, 2), 2);
    }

    private static void instancesOverTheLimit() {
        says(13, TOO_MANY_INSTANCES);
        Recipe over = Recipe.chain(8, 8).instance(2, 0);
        fits("what is in one that is too large", over, 1, 8, 0);
        fits("another one in it", over.modules(1).instance(3, 1), 3, 8, 0);
        fits("after it was refused", over.tried(x -> x.flat(2)), 1, 8, 0);
        isTooMuch("after it was refused", over.tried(x -> x.flat(2)), 2);
        isTooMuch("4096", Recipe.chain(64, 64), 2);
    }

    /** 16 to the 8th is 0 as an int, and to the 16th as a long: some more of them look like few. */
    private static void instancesThatWrapAround() {
        says(13, TOO_MANY_INSTANCES);
        Recipe byInts = Recipe.chain(16, 16, 16, 16, 16, 16, 16, 16);
        isTooMuch("16 ^ 7", byInts, 7);
        isTooMuch("16 ^ 8", byInts, 8);
        isTooMuch("16 ^ 8 and 5", byInts.instances(5, 8, 0), 8);
        isTooMuch("16 ^ 7 * 8", Recipe.chain(16, 16, 16, 16, 16, 16, 16, 8), 8);
        isTooMuch("16 ^ 7 * 24", Recipe.chain(16, 16, 16, 16, 16, 16, 16, 24), 8);
        Recipe byLongs = Recipe.chain(16, 16, 16, 16, 16, 16, 16, 16, 16, 16, 16, 16, 16, 16, 16, 16);
        isTooMuch("16 ^ 16", byLongs, 16);
        isTooMuch("16 ^ 16 and 5", byLongs.instances(5, 16, 0), 16);
        isTooMuch("64 ^ 6", Recipe.chain(64, 64, 64, 64, 64, 64), 6);
        fits("16, the lowest of all", byLongs, 1, 16, 0);
    }

    private static void netsOfTheTop() {
        says(13, TOO_MANY_NETS);
        for (int n : new int[] {0, 1, 127, 128}) {
            fits(n + " of the top", new Recipe().modules(2).instance(1, 0).nets(n, 1), 1, 1, n);
        }
        Recipe over = new Recipe().modules(3).instance(1, 0).instance(2, 1).nets(128, 2);
        fits("128 of the top and none of another", over, 2, 1, 128);
        isTooMuch("128 of the top and one of another", over.nets(1, 1), 2);
    }

    private static void netsOfOccurrences() {
        says(13, TOO_MANY_NETS);
        Recipe twice = new Recipe().modules(3).port(1, 1, true).instance(1, 0).nets(63, 1).instances(2, 2, 1);
        fits("2 * 63 and 1", twice.nets(1, 2), 2, 2, 127);
        fits("2 * 63 and 2", twice.nets(2, 2), 2, 2, 128);
        isTooMuch("2 * 63 and 3", twice.nets(3, 2), 2);
        fits("2 * 64", twice.nets(1, 1), 2, 2, 128);
        isTooMuch("2 * 64 and 1", twice.nets(1, 1).nets(1, 2), 2);
        isTooMuch("2 * 65", twice.nets(2, 1), 2);
        isTooMuch("2 * 128", twice.nets(65, 1), 2);
        Recipe manyTimes = new Recipe().modules(3).instance(1, 0).nets(2, 1).instances(64, 2, 1);
        fits("64 * 2", manyTimes, 2, 64, 128);
        isTooMuch("64 * 2 and 1", manyTimes.nets(1, 2), 2);
        isTooMuch("64 * 3", manyTimes.nets(1, 1), 2);
    }

    /** 129 and 130 nets of occurrences, of which some are one. */
    private static void netsThatAreOne() {
        says(13, TOO_MANY_NETS);
        Recipe twice = new Recipe().modules(3).port(1, 1, true).instance(1, 0).nets(64, 1).instances(2, 2, 1)
                .nets(1, 2).join(1, 63, NONE, 0);
        isTooMuch("129, none of them one", twice, 2);
        fits("129, two of them one", twice.join(2, 0, 0, 0), 2, 2, 128);
        fits("129, three of them one", twice.join(2, 0, 0, 0).join(2, 0, 1, 0), 2, 2, 127);
        isTooMuch("130, two of them one", twice.join(2, 0, 0, 0).nets(1, 2), 2);
        fits("130, three of them one", twice.join(2, 0, 0, 0).join(2, 0, 1, 0).nets(1, 2), 2, 2, 128);
        fits("130, two and two of them one", twice.nets(1, 2).join(2, 0, 0, 0).join(2, 1, 1, 0), 2, 2, 128);
        isTooMuch("129, a pin outside alone", twice.part(1, NONE, 0).join(2, 0, 0, 0), 2);
    }

    private static void netsOfLeavesAreNone() {
        says(13, "for each instance of one that occurs, the instance's module, if that is no leaf");
        Recipe leaves = new Recipe().modules(2).port(0, 2, true).nets(128, 0).join(0, 5, NONE, 0).join(0, 5, NONE, 1)
                .instances(64, 1, 0).nets(2, 1).join(1, 0, 0, 0).join(1, 1, 0, 1);
        fits("64 leaves of 128 nets", leaves, 1, 64, 2);
        due("two pins that meet in a leaf, the first", 0, leaves.flat(1), x -> x.netOf(2, 0, 0));
        due("two pins that meet in a leaf, the second", 1, leaves.flat(1), x -> x.netOf(2, 0, 1));
        fits("the leaf itself as top", leaves, 0, 0, 128);
    }

    /** Module 2 has 49 nets that are one with the net of the module in it: 50 for each instance of it. */
    private static Recipe fifties(int n) {
        Recipe made = new Recipe().modules(4).ports(6, 1, 8, false).port(1, 1, false)
                .instance(1, 0).nets(1, 1).instance(2, 1).nets(49, 2);
        for (int pin = 0; pin < 49; pin++) {
            made = made.join(1, 0, NONE, pin).join(2, 48 - pin, 0, pin);
        }
        return made.instances(n, 3, 2);
    }

    private static void netsOfAllOccurrences() {
        says(13, TOO_MANY_NETS_IN_ALL);
        Recipe most = fifties(59);
        fits("59 * 50 = 2950", most, 3, 59, 59);
        fits("2999", most.nets(49, 3), 3, 59, 108);
        fits("3000", most.nets(50, 3), 3, 59, 109);
        isTooMuch("3001", most.nets(51, 3), 3);
        isTooMuch("3002", most.nets(52, 3), 3);
        fits("3000 as 60 * 50", fifties(60), 3, 60, 60);
        isTooMuch("3001 as 60 * 50 and 1", fifties(60).nets(1, 3), 3);
        isTooMuch("3050 as 61 * 50", fifties(61), 3);
        isTooMuch("3200 as 64 * 50", fifties(64), 3);
        fits("one of them alone", fifties(64), 2, 1, 1);
        fits("after it was refused", fifties(61).tried(x -> x.flat(3)), 2, 1, 1);
    }

    /** One leaf in 22 others, each with 128 nets: fewer than 3000, yet more than 128 are left. */
    private static void netsOfOneDeepChain() {
        says(13, TOO_MANY_NETS);
        Recipe deep = new Recipe().modules(1).nets(128, 0).copies(21, 0).modules(1);
        for (int module = 0; module < 22; module++) {
            deep = deep.instance(module, module == 21 ? 22 : module + 1);
        }
        isTooMuch("22 * 128", deep, 0);
        isTooMuch("2 * 128", deep, 20);
        fits("128", deep, 21, 1, 128);
        fits("a leaf", deep, 22, 0, 0);
    }

    private static void leafThatIsNoneAnyMore() {
        says(13, "A LEAF is a module without instances");
        Recipe flat = Recipe.chain(2, 3).nets(1, 0).nets(1, 1).modules(1).flat(2);
        due("instances of the flat one", 6, flat, x -> x.count(4, 1));
        due("nets of the flat one", 3, flat, x -> x.count(4, 2));
        Recipe deeper = flat.instances(2, 0, 3);
        due("instances of the flat one still", 6, deeper, x -> x.count(4, 1));
        due("layers of the flat one", 2, deeper, x -> x.count(4, 4));
        due("leaves of the flat one", 12, deeper, x -> x.count(4, 5));
        fits("of the flat one", deeper, 4, 12, 9);
        fits("of the first one", deeper, 2, 12, 9);
        due("the way over the flat one", 5, deeper.flat(4), x -> x.path(5, 11, 0));
        due("the way over the flat one, its end", 1, deeper.flat(4), x -> x.path(5, 11, 1));
        due("the way over the flat one, behind", NONE, deeper.flat(4), x -> x.path(5, 11, 2));
        due("the way over the first one, its end", 1, deeper.flat(2), x -> x.path(5, 11, 2));
    }

    /** The top 3 has a leaf, a 2 with (leaf, 1 with two leaves, leaf), and a leaf. */
    private static Recipe branched() {
        return new Recipe().modules(5).instances(2, 1, 0).instance(2, 4).instance(2, 1).instance(2, 4)
                .instance(3, 0).instance(3, 2).instance(3, 4);
    }

    private static void orderOfInstances() {
        says(13, "in each occurrence instance by instance, into each that is of no leaf before the next one");
        int[] of = {0, 4, 0, 0, 4, 4};
        int[][] ways = {{0}, {1, 0}, {1, 1, 0}, {1, 1, 1}, {1, 2}, {2}};
        Recipe flat = branched().flat(3);
        fits("in the top, in one and in one below", branched(), 3, 6, 0);
        for (int i = 0; i < of.length; i++) {
            int instance = i;
            due("the module of " + i, of[i], flat, x -> x.moduleOf(5, instance));
            for (int j = 0; j <= ways[i].length; j++) {
                int place = j;
                int want = j < ways[i].length ? ways[i][j] : NONE;
                due("the way of " + i + " at " + j, want, flat, x -> x.path(5, instance, place));
            }
        }
        refused("the module of one more", INDEX, flat, x -> x.moduleOf(5, 6));
    }

    private static void orderOfNets() {
        says(13, "The flat one's nets are these, in the order of their first ones (by occurrences, then by numbers)");
        Recipe nets = new Recipe().modules(3).port(0, 1, true).instances(2, 1, 0).nets(2, 1)
                .join(1, 0, 1, 0).join(1, 1, 0, 0).instances(2, 2, 1).instance(2, 0).nets(2, 2).join(2, 1, 2, 0);
        fits("none of them one", nets, 2, 5, 6);
        netsOfLeaves(nets.flat(2), 3, 3, 2, 5, 4, 1);
        due("the first net has no pin", 0, nets.flat(2), x -> x.pins(3, 0));
    }

    /**
     * Net 0 of each of three occurrences of module 1 is one with a net before it: twice with net 1 of the top,
     * once with the net of module 3. So nets behind these have smaller numbers than there were nets before them.
     */
    private static void orderOfNetsThatAreOne() {
        says(13, "The flat one's nets are these, in the order of their first ones (by occurrences, then by numbers)");
        Recipe nets = new Recipe().modules(4).port(0, 1, true).port(1, 1, true).port(2, 1, false)
                .instances(2, 1, 0).nets(3, 1).join(1, 0, NONE, 0).join(1, 0, 0, 0).join(1, 2, 1, 0)
                .instance(3, 1).nets(1, 3).join(3, 0, 0, 0)
                .instances(2, 2, 1).instance(2, 3).nets(2, 2)
                .join(2, 1, 0, 0).join(2, 1, 1, 0).join(2, 1, NONE, 0);
        fits("three of them one, and two", nets, 2, 6, 9);
        netsOfLeaves(nets.flat(2), 4, 1, 3, 1, 5, 6, 8);
        due("the own pin", 1, nets.flat(2), x -> x.netOf(4, NONE, 0));
        due("pins of the three", 3, nets.flat(2), x -> x.pins(4, 1));
        due("pins of the two", 1, nets.flat(2), x -> x.pins(4, 6));
        due("drivers of the three", 1, nets.flat(2), x -> x.doubled(4, 0));
    }

    private static void netsOfLeaves(Recipe flat, int module, int... wanted) {
        for (int i = 0; i < wanted.length; i++) {
            int instance = i;
            due("the net of leaf " + i, wanted[i], flat, x -> x.netOf(module, instance, 0));
        }
    }

    private static void pinsThatMeetNothing() {
        says(13, "Nets of occurrences are ONE if they are joined by pins");
        Recipe pair = new Recipe().modules(3).port(0, 1, true).port(1, 2, true).instance(1, 0).nets(1, 1)
                .join(1, 0, 0, 0).instance(2, 1).nets(1, 2);
        due("neither inside nor outside", 2, pair.flat(2), x -> x.count(3, 2));
        due("outside alone", 2, pair.join(2, 0, 0, 1).flat(2), x -> x.count(3, 2));
        due("inside alone", 2, pair.join(1, 0, NONE, 1).flat(2), x -> x.count(3, 2));
        due("another pin", 2, pair.join(1, 0, NONE, 1).join(2, 0, 0, 0).flat(2), x -> x.count(3, 2));
        Recipe joined = pair.join(1, 0, NONE, 1).join(2, 0, 0, 1);
        due("both", 1, joined.flat(2), x -> x.count(3, 2));
        due("the leaf's pin", 0, joined.flat(2), x -> x.netOf(3, 0, 0));
        due("a leaf's pin that is in no net", NONE, pair.part(1, 0, 0).flat(2), x -> x.netOf(3, 0, 0));
        Recipe own = pair.port(2, 2, true).join(2, 0, NONE, 1);
        due("an own pin of the top", 0, own.flat(2), x -> x.netOf(3, NONE, 1));
        due("an own pin of the top in no net", NONE, own.flat(2), x -> x.netOf(3, NONE, 0));
    }

    /** The top's nets 127 and 0 meet in module 0, over 19 modules that cross them each time. */
    private static void netsThroughManyModules() {
        says(13, "Nets of occurrences are ONE if they are joined by pins");
        Recipe deep = new Recipe().modules(1).port(0, 2, false).copies(19, 0).modules(2)
                .instance(0, 20).nets(1, 0).join(0, 0, NONE, 0).join(0, 0, NONE, 1);
        for (int module = 1; module < 20; module++) {
            deep = deep.instance(module, module - 1).nets(2, module)
                    .join(module, 0, NONE, 0).join(module, 1, NONE, 1).join(module, 0, 0, 1).join(module, 1, 0, 0);
        }
        deep = deep.instance(21, 19).nets(128, 21).join(21, 127, 0, 0).join(21, 0, 0, 1);
        fits("two ends that meet", deep, 21, 1, 127);
        Recipe apart = deep.part(0, NONE, 1);
        fits("two ends that do not meet", apart, 21, 1, 128);
        isTooMuch("two ends that do not meet, and a net more", apart.nets(1, 0), 21);
    }

    private static void wayOfAnInstance() {
        Recipe one = new Recipe().modules(2).instances(3, 1, 0);
        says(14, "An instance that was not made by laying out flat has its own number alone");
        for (int instance = 0; instance < 3; instance++) {
            int i = instance;
            due("its own number", i, one, x -> x.path(1, i, 0));
            for (int behind : new int[] {1, 2, 23, 24, 64, GREATEST - 1, GREATEST}) {
                due("behind it", NONE, one, x -> x.path(1, i, behind));
            }
        }
        says(14, "IndexOutOfBoundsException: also if i is below 0");
        refused("just below 0", INDEX, one, x -> x.path(1, 2, -1));
        refused("the least", INDEX, one, x -> x.path(1, 2, LEAST));
        says(14, "IndexOutOfBoundsException: there is no such instance");
        refused("NONE is no instance", INDEX, one, x -> x.path(1, NONE, 0));
        refused("one behind the last", INDEX, one, x -> x.path(1, 3, 0));
        refused("one behind the last, far behind its way", INDEX, one, x -> x.path(1, 3, GREATEST));
    }

    private static void wayOfTheLastInstance() {
        says(14, "The i-th number of an instance's way (from 0, the top's first); NONE behind the last one");
        Recipe flat = Recipe.chain(63, 1).flat(2);
        due("the last one's own number", 62, Recipe.chain(63), x -> x.path(1, 62, 0));
        due("the 64th one's own number", 63, Recipe.chain(64), x -> x.path(1, 63, 0));
        due("the top's first", 0, flat, x -> x.path(3, 62, 0));
        due("its end", 62, flat, x -> x.path(3, 62, 1));
        due("behind it", NONE, flat, x -> x.path(3, 62, 2));
        Recipe more = flat.instance(3, 0);
        due("the 64th was made by itself", 63, more, x -> x.path(3, 63, 0));
        due("the 64th was made by itself, behind", NONE, more, x -> x.path(3, 63, 1));
        due("the others keep theirs", 62, more, x -> x.path(3, 62, 1));
        Recipe wide = Recipe.chain(1, 64).flat(2);
        due("the 64th way's first", 63, wide, x -> x.path(3, 63, 0));
        due("the 64th way's end", 0, wide, x -> x.path(3, 63, 1));
    }

    /** 23 modules are left for a chain, as the flat one is the 24th. */
    private static void wayOfADeepInstance() {
        says(14, "The i-th number of an instance's way (from 0, the top's first); NONE behind the last one");
        Recipe deep = new Recipe().modules(23);
        for (int module = 1; module < 22; module++) {
            deep = deep.instance(module, module - 1);
        }
        Recipe flat = deep.instance(22, 0).instance(22, 21).flat(22);
        due("its instances", 2, flat, x -> x.count(23, 1));
        due("the short way", 0, flat, x -> x.path(23, 0, 0));
        due("behind the short way", NONE, flat, x -> x.path(23, 0, 1));
        due("the long way's first", 1, flat, x -> x.path(23, 1, 0));
        for (int i = 1; i < 22; i++) {
            int place = i;
            due("the long way at " + i, 0, flat, x -> x.path(23, 1, place));
        }
        for (int i : new int[] {22, 23, 24, GREATEST}) {
            due("behind the long way at " + i, NONE, flat, x -> x.path(23, 1, i));
        }
        refused("before the long way", INDEX, flat, x -> x.path(23, 1, -1));
    }
}
