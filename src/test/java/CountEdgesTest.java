/** Counts of a module, from nothing to numbers that no int could hold; and the modules that instances are of. */
public final class CountEdgesTest extends Checks {
    private static final String LEAVES = "5 occurrences of leaves in it (itself one, if it is a leaf; 1000000 at most)";
    private static final String LAYERS = "4 how many modules lie in one another at most below it (0 for a leaf)";

    public static void main(String[] args) {
        countsOfNothing();
        countsOfTheFullest();
        countsOfTheSample();
        layersOfAChain();
        layersByTheLongestWay();
        leavesOfFew();
        leavesAroundAMillion();
        leavesThatWrapAround();
        leavesOverTwoWays();
        modulesOfInstances();
        end();
    }

    private static void counts(String what, Recipe recipe, int module, int... wanted) {
        for (int i = 0; i < wanted.length; i++) {
            int w = i;
            due(what + ", count " + w, wanted[w], recipe, x -> x.count(module, w));
        }
    }

    private static void countsOfNothing() {
        says(18, "0 ports, 1 instances, 2 nets, 3 its pins");
        counts("a module without anything", new Recipe().modules(1), 0, 0, 0, 0, 0, 0, 1);
        counts("a port", new Recipe().modules(1).port(0, 1, true), 0, 1, 0, 0, 1, 0, 1);
        counts("a net", new Recipe().modules(1).nets(1, 0), 0, 0, 0, 1, 0, 0, 1);
        counts("an instance", new Recipe().modules(2).instance(0, 1), 0, 0, 1, 0, 0, 1, 1);
    }

    private static void countsOfTheFullest() {
        says(18, "0 ports, 1 instances, 2 nets, 3 its pins");
        Recipe full = new Recipe().modules(2).ports(16, 0, 8, true).instances(64, 0, 1).nets(128, 0);
        counts("as much as there may be", full, 0, 16, 64, 128, 128, 1, 64);
        counts("beside it", full, 1, 0, 0, 0, 0, 0, 1);
        Recipe oneLess = new Recipe().modules(2).ports(15, 0, 8, true).port(0, 7, true).instances(63, 0, 1)
                .nets(127, 0);
        counts("one less", oneLess, 0, 16, 63, 127, 127, 1, 63);
        refused("one what less", INDEX, Recipe.sample(), x -> x.count(0, -1));
        refused("one what more", INDEX, Recipe.sample(), x -> x.count(0, 6));
    }

    private static void countsOfTheSample() {
        says(18, "0 ports, 1 instances, 2 nets, 3 its pins");
        counts("module 0", Recipe.sample(), 0, 2, 2, 4, 4, 1, 2);
        counts("module 1", Recipe.sample(), 1, 2, 0, 0, 3, 0, 1);
        counts("module 2", Recipe.sample(), 2, 0, 2, 1, 0, 2, 4);
        counts("module 3", Recipe.sample(), 3, 0, 4, 7, 0, 1, 4);
        counts("module 4", Recipe.sample(), 4, 0, 0, 0, 0, 0, 1);
        counts("module 5", Recipe.sample(), 5, 2, 2, 4, 4, 1, 2);
    }

    private static void layersOfAChain() {
        says(18, LAYERS);
        Recipe deep = Recipe.chain(1, 1, 1, 1, 1, 1, 1, 1, 1, 1, 1, 1, 1, 1, 1, 1, 1, 1, 1, 1, 1, 1, 1);
        for (int module = 0; module < 24; module++) {
            int m = module;
            due("below module " + m + " of the chain", m, deep, x -> x.count(m, 4));
            due("leaves of a chain", 1, deep, x -> x.count(m, 5));
        }
        due("a leaf that gets an instance", 1, new Recipe().modules(2).instance(0, 1), x -> x.count(0, 4));
        due("a leaf that is refused one", 0, new Recipe().modules(2).instance(0, 0), x -> x.count(0, 4));
    }

    private static void layersByTheLongestWay() {
        says(18, LAYERS);
        Recipe chain = Recipe.chain(1, 1, 1).modules(1);
        due("the long way first", 4, chain.instance(4, 3).instance(4, 0), x -> x.count(4, 4));
        due("the long way last", 4, chain.instance(4, 0).instance(4, 3), x -> x.count(4, 4));
        due("the long way between", 4, chain.instance(4, 1).instance(4, 3).instance(4, 2), x -> x.count(4, 4));
        due("many instances are no layers", 1, chain.instances(64, 4, 0), x -> x.count(4, 4));
        due("the long way is the 64th", 4, chain.instances(63, 4, 0).instance(4, 3), x -> x.count(4, 4));
        due("what lies above does not count", 1, chain.instance(4, 3), x -> x.count(1, 4));
    }

    private static void leavesOfFew() {
        says(18, LEAVES);
        due("a leaf", 1, new Recipe().modules(1), x -> x.count(0, 5));
        due("a leaf in another", 1, Recipe.chain(1), x -> x.count(0, 5));
        for (int n : new int[] {1, 2, 63, 64}) {
            due(n + " leaves", n, Recipe.chain(n), x -> x.count(1, 5));
            due(n + " * 64 leaves", n * 64, Recipe.chain(n, 64), x -> x.count(2, 5));
        }
        due("64 * 64 * 64 leaves", 262144, Recipe.chain(64, 64, 64), x -> x.count(3, 5));
    }

    /** 27 * 37 * 7 * 11 * 13 is 999999. */
    private static void leavesAroundAMillion() {
        says(18, LEAVES);
        Recipe below = Recipe.chain(27, 37, 7, 11, 13).modules(1).instance(6, 5);
        due("999999", 999999, below, x -> x.count(5, 5));
        due("999999 in one", 999999, below, x -> x.count(6, 5));
        due("1000000", 1000000, below.instance(6, 0), x -> x.count(6, 5));
        due("1000001", 1000000, below.instances(2, 6, 0), x -> x.count(6, 5));
        due("2 * 999999", 1000000, below.instance(6, 5), x -> x.count(6, 5));
        due("64 * 999999", 1000000, below.instances(63, 6, 5), x -> x.count(6, 5));
        due("1000000 as 10 ^ 6", 1000000, Recipe.chain(10, 10, 10, 10, 10, 10), x -> x.count(6, 5));
        due("10 ^ 6 - 10 ^ 5", 900000, Recipe.chain(10, 10, 10, 10, 10, 9), x -> x.count(6, 5));
        due("10 ^ 6 + 10 ^ 5", 1000000, Recipe.chain(10, 10, 10, 10, 10, 11), x -> x.count(6, 5));
    }

    /** Numbers whose last 31, 32, 63 and 64 bits are few or none. */
    private static void leavesThatWrapAround() {
        says(18, LEAVES);
        Recipe chain = Recipe.chain(16, 16, 16, 16, 16, 16, 16, 16, 16, 16, 16, 16, 16, 16, 16, 16);
        due("16 ^ 4", 65536, chain, x -> x.count(4, 5));
        for (int module = 5; module <= 16; module++) {
            int m = module;
            due("16 ^ " + m, 1000000, chain, x -> x.count(m, 5));
        }
        due("16 ^ 16 and 7", 1000000, chain.instances(7, 16, 0), x -> x.count(16, 5));
        due("16 ^ 8 and 7", 1000000, chain.modules(1).instance(17, 8).instances(7, 17, 0), x -> x.count(17, 5));
        due("2 ^ 31", 1000000, Recipe.chain(16, 16, 16, 16, 16, 16, 16, 8), x -> x.count(8, 5));
        due("2 ^ 31 and one", 1000000, Recipe.chain(16, 16, 16, 16, 16, 16, 16, 8).instance(8, 0),
                x -> x.count(8, 5));
        due("64 ^ 7", 1000000, Recipe.chain(64, 64, 64, 64, 64, 64, 64), x -> x.count(7, 5));
        Recipe deepest = new Recipe().modules(24);
        for (int module = 1; module < 24; module++) {
            deepest = deepest.instances(20, module, module - 1);
        }
        due("20 ^ 23", 1000000, deepest, x -> x.count(23, 5));
        due("20 ^ 4", 160000, deepest, x -> x.count(4, 5));
        due("layers of 20 ^ 23", 23, deepest, x -> x.count(23, 4));
        due("kinds of 20 ^ 23", 24, deepest, x -> x.kinds());
        due("alike in 20 ^ 23", false, deepest, x -> x.alike(22, 23));
    }

    private static void leavesOverTwoWays() {
        says(18, LEAVES);
        Recipe ways = Recipe.chain(2, 2).instances(3, 2, 0).modules(1);
        due("over one and at once", 7, ways, x -> x.count(2, 5));
        due("a leaf that gets an instance of one", 7, ways.instance(0, 3), x -> x.count(2, 5));
        due("a leaf that gets two instances", 14, ways.instances(2, 0, 3), x -> x.count(2, 5));
        due("itself when it gets two", 2, ways.instances(2, 0, 3), x -> x.count(0, 5));
    }

    private static void modulesOfInstances() {
        says(19, "The module that an instance is of");
        Recipe full = new Recipe().modules(24).instance(0, 23).instances(62, 0, 1).instance(0, 22);
        due("the first", 23, full, x -> x.moduleOf(0, 0));
        due("the second", 1, full, x -> x.moduleOf(0, 1));
        due("the last but one", 1, full, x -> x.moduleOf(0, 62));
        due("the last", 22, full, x -> x.moduleOf(0, 63));
        for (int instance : new int[] {LEAST, -2, NONE, 64, 65, GREATEST}) {
            refused("instance " + instance, INDEX, full, x -> x.moduleOf(0, instance));
        }
        due("of module 0", 0, new Recipe().modules(2).instance(1, 0), x -> x.moduleOf(1, 0));
        due("in a copy", 1, Recipe.sample(), x -> x.moduleOf(5, 1));
        due("of a copy, not of the first one", 5, Recipe.sample().instance(4, 5), x -> x.moduleOf(4, 0));
        due("in a flat one", 1, Recipe.sample(), x -> x.moduleOf(3, 3));
    }
}
