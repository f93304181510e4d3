/** Modules that differ in one thing alone, or in nothing that is looked at; and how many kinds there are. */
public final class AlikeEdgesTest extends Checks {
    /** 0 and 1 are held against each other. 2 and 3 are alike, two ports of 8 bits; 4 is not, for one bit. */
    private static final Recipe BARE = new Recipe().modules(5)
            .port(2, 8, false).port(2, 8, true).port(3, 8, false).port(3, 8, true).port(4, 8, false).port(4, 7, true);

    private interface Change {
        Recipe of(Recipe recipe, int module);
    }

    public static void main(String[] args) {
        alikeWithItself();
        alikeByPorts();
        alikeByWidthsAndWays();
        alikeByPortsInTheirOrder();
        alikeByInstances();
        alikeByModulesOfInstances();
        alikeByNets();
        alikeByOwnPins();
        alikeByPinsOfInstances();
        alikeByNetsOneByOne();
        alikeOverManyLayers();
        alikeWhateverTheWay();
        alikeCopies();
        kindsOfNone();
        kindsOfOne();
        kindsOfTwentyFour();
        kindsOfPairs();
        kindsOfWhatLiesBelow();
        end();
    }

    private static Recipe both(Recipe recipe, Change change) {
        return change.of(change.of(recipe, 0), 1);
    }

    private static void alike(String what, boolean want, Recipe recipe) {
        due(what, want, recipe, x -> x.alike(0, 1));
        due(what + ", the other way round", want, recipe, x -> x.alike(1, 0));
    }

    /** The change in one of the two alone makes them differ, the same in both does not. */
    private static void differsBy(String what, Recipe recipe, Change change) {
        alike("before " + what, true, recipe);
        alike(what + " in the first", false, change.of(recipe, 0));
        alike(what + " in the second", false, change.of(recipe, 1));
        alike(what + " in both", true, both(recipe, change));
    }

    private static void differ(String what, Recipe recipe, Change one, Change other) {
        alike(what, false, other.of(one.of(recipe, 0), 1));
        alike(what + ", each in the other", false, one.of(other.of(recipe, 0), 1));
    }

    private static void alikeWithItself() {
        says(17, "Whether two modules are alike");
        due("the only one", true, new Recipe().modules(1), x -> x.alike(0, 0));
        due("the last of 24", true, new Recipe().modules(24), x -> x.alike(23, 23));
        due("the first and the last of 24", true, new Recipe().modules(24), x -> x.alike(0, 23));
        for (int module = 0; module < 6; module++) {
            int m = module;
            due("module " + m, true, Recipe.sample(), x -> x.alike(m, m));
        }
    }

    private static void alikeByPorts() {
        says(17, "as many ports");
        for (int n : new int[] {0, 1, 14, 15}) {
            differsBy("a port more than " + n, both(BARE, (r, m) -> r.ports(n, m, 8, true)),
                    (r, m) -> r.port(m, 8, true));
        }
    }

    private static void alikeByWidthsAndWays() {
        says(17, "of the same widths and ways");
        for (int n : new int[] {0, 15}) {
            Recipe same = both(BARE, (r, m) -> r.ports(n, m, 8, true));
            for (int width = 1; width < 8; width++) {
                int w = width;
                differ("width " + w + " and one more", same, (r, m) -> r.port(m, w, true),
                        (r, m) -> r.port(m, w + 1, true));
            }
            differ("one bit in and out", same, (r, m) -> r.port(m, 1, false), (r, m) -> r.port(m, 1, true));
            differ("eight bits in and out", same, (r, m) -> r.port(m, 8, false), (r, m) -> r.port(m, 8, true));
        }
    }

    private static void alikeByPortsInTheirOrder() {
        says(17, "of the same widths and ways");
        differ("in and out, out and in", BARE, (r, m) -> r.port(m, 1, false).port(m, 1, true),
                (r, m) -> r.port(m, 1, true).port(m, 1, false));
        differ("1 and 2, 2 and 1", BARE, (r, m) -> r.port(m, 1, true).port(m, 2, true),
                (r, m) -> r.port(m, 2, true).port(m, 1, true));
        differ("4 and 4, 8", BARE, (r, m) -> r.ports(2, m, 4, true), (r, m) -> r.port(m, 8, true));
        differ("4 and 4, 3 and 5", BARE, (r, m) -> r.ports(2, m, 4, true),
                (r, m) -> r.port(m, 3, true).port(m, 5, true));
    }

    private static void alikeByInstances() {
        says(17, "as many instances");
        for (int n : new int[] {0, 1, 62, 63}) {
            differsBy("an instance more than " + n, both(BARE, (r, m) -> r.instances(n, m, 2)),
                    (r, m) -> r.instance(m, 2));
        }
    }

    private static void alikeByModulesOfInstances() {
        says(17, "of modules that are alike one by one");
        for (int n : new int[] {0, 63}) {
            Recipe same = both(BARE, (r, m) -> r.instances(n, m, 2));
            alike("of two that are alike", true, same.instance(0, 2).instance(1, 3));
            differ("of two that are not", same, (r, m) -> r.instance(m, 2), (r, m) -> r.instance(m, 4));
        }
        for (int n : new int[] {1, 62}) {
            differ("the first one of " + (n + 1), BARE, (r, m) -> r.instance(m, 4).instances(n, m, 2),
                    (r, m) -> r.instance(m, 3).instances(n, m, 2));
        }
        differ("of the same two in another order", BARE, (r, m) -> r.instance(m, 2).instance(m, 4),
                (r, m) -> r.instance(m, 4).instance(m, 2));
    }

    private static void alikeByNets() {
        says(17, "as many nets");
        for (int n : new int[] {0, 1, 126, 127}) {
            differsBy("a net more than " + n, both(BARE, (r, m) -> r.nets(n, m)), (r, m) -> r.nets(1, m));
        }
    }

    private static void alikeByOwnPins() {
        says(17, "with the same pins one by one");
        Recipe wide = both(BARE, (r, m) -> r.ports(16, m, 8, true).nets(128, m));
        for (int pin : new int[] {0, 1, 126, 127}) {
            for (int net : new int[] {0, 127}) {
                differsBy("own pin " + pin + " in net " + net, wide, (r, m) -> r.join(m, net, NONE, pin));
            }
            differ("own pin " + pin + " in two nets", wide, (r, m) -> r.join(m, 0, NONE, pin),
                    (r, m) -> r.join(m, 1, NONE, pin));
        }
        differ("two own pins in one net", wide, (r, m) -> r.join(m, 0, NONE, 0), (r, m) -> r.join(m, 0, NONE, 1));
        alike("in and out again", true, wide.join(0, 0, NONE, 127).part(0, NONE, 127));
    }

    private static void alikeByPinsOfInstances() {
        says(17, "with the same pins one by one");
        Recipe wide = both(BARE, (r, m) -> r.instances(64, m, 2).nets(128, m).port(m, 8, true));
        for (int instance : new int[] {0, 63}) {
            for (int pin : new int[] {0, 15}) {
                for (int net : new int[] {0, 127}) {
                    differsBy("pin " + pin + " of " + instance, wide, (r, m) -> r.join(m, net, instance, pin));
                }
                differ("pin " + pin + " of " + instance + " in two nets", wide,
                        (r, m) -> r.join(m, 0, instance, pin), (r, m) -> r.join(m, 1, instance, pin));
            }
        }
        differ("an own pin, an instance's", wide, (r, m) -> r.join(m, 0, NONE, 0), (r, m) -> r.join(m, 0, 0, 0));
        differ("two instances'", wide, (r, m) -> r.join(m, 0, 62, 15), (r, m) -> r.join(m, 0, 63, 15));
        differ("the last of one, the first of the next", wide, (r, m) -> r.join(m, 0, 0, 15),
                (r, m) -> r.join(m, 0, 1, 0));
    }

    private static void alikeByNetsOneByOne() {
        says(17, "as many nets, with the same pins one by one");
        Recipe same = both(BARE, (r, m) -> r.port(m, 2, true).nets(3, m));
        differ("the same nets in another order", same, (r, m) -> r.join(m, 0, NONE, 0).join(m, 1, NONE, 1),
                (r, m) -> r.join(m, 1, NONE, 0).join(m, 0, NONE, 1));
        differ("one net of two, two of one", same, (r, m) -> r.join(m, 0, NONE, 0).join(m, 0, NONE, 1),
                (r, m) -> r.join(m, 0, NONE, 0).join(m, 1, NONE, 1));
        alike("the same in another order of calls", true, same.join(0, 0, NONE, 0).join(0, 2, NONE, 1)
                .join(1, 2, NONE, 1).join(1, 0, NONE, 0));
    }

    /** Two chains of 12, of the even and of the odd numbers. */
    private static void alikeOverManyLayers() {
        says(17, "of modules that are alike one by one");
        Recipe chains = new Recipe().modules(24);
        for (int module = 0; module < 22; module++) {
            chains = chains.instance(module, module + 2);
        }
        for (int lowest : new int[] {22, 12}) {
            Recipe changed = chains.nets(1, lowest);
            alike("over 11 layers", true, chains);
            alike("a net in " + lowest, false, changed);
            alike("a net in both", true, changed.nets(1, lowest + 1));
            due("one step below it", lowest == 12, changed, x -> x.alike(14, 15));
        }
        due("one layer more", false, chains, x -> x.alike(0, 3));
        due("one layer less", false, chains, x -> x.alike(2, 1));
        alike("an instance in the lowest of one", false, chains.instance(22, 23));
    }

    private static void alikeWhateverTheWay() {
        says(17, "Whether two modules are alike");
        Recipe flat = Recipe.chain(2, 3).modules(1).instances(6, 3, 0).flat(2);
        due("a flat one and one of the same instances", true, flat, x -> x.alike(3, 4));
        due("a flat one and the one it was made of", false, flat, x -> x.alike(2, 4));
        due("a flat one of a flat one", true, flat.flat(4), x -> x.alike(4, 5));
        due("a flat one of a leaf", true, flat.flat(0), x -> x.alike(0, 5));
        due("a flat one of one with leaves alone", true, flat.flat(1), x -> x.alike(1, 5));
    }

    private static void alikeCopies() {
        says(17, "Whether two modules are alike");
        Recipe copied = Recipe.sample();
        due("a copy", true, copied, x -> x.alike(0, 5));
        due("a copy, the other way round", true, copied, x -> x.alike(5, 0));
        due("a copy with a port more that shares", false, copied.port(5, 1, true), x -> x.alike(0, 5));
        due("a copy with a net more", false, copied.nets(1, 5), x -> x.alike(0, 5));
        due("a copy and one with it in another's place", true,
                copied.modules(1).instances(2, 6, 5).nets(1, 6).join(6, 0, 0, 1).join(6, 0, 1, 0),
                x -> x.alike(2, 6));
    }

    private static void kindsOfNone() {
        says(21, "How many different ones these are, alike ones being one");
        due("of a new object", 0, new Recipe(), x -> x.kinds());
        due("after clear", 0, Recipe.sample().clear(), x -> x.kinds());
        due("after clear of 24", 0, new Recipe().modules(24).clear(), x -> x.kinds());
    }

    private static void kindsOfOne() {
        says(21, "How many different ones these are, alike ones being one");
        for (int n : new int[] {1, 2, 23, 24}) {
            due(n + " without anything", 1, new Recipe().modules(n), x -> x.kinds());
            due(n + " that share", 1, new Recipe().modules(1).copies(n - 1, 0), x -> x.kinds());
        }
        due("one and its flat one", 1, new Recipe().modules(1).nets(3, 0).flat(0), x -> x.kinds());
    }

    private static void kindsOfTwentyFour() {
        says(21, "How many different ones these are, alike ones being one");
        Recipe byNets = new Recipe().modules(24);
        Recipe byLayers = new Recipe().modules(24);
        for (int module = 1; module < 24; module++) {
            byNets = byNets.nets(module, module);
            byLayers = byLayers.instance(module, module - 1);
        }
        due("24 by their nets", 24, byNets, x -> x.kinds());
        due("24 by their layers", 24, byLayers, x -> x.kinds());
        due("23 of 24", 23, byNets.nets(1, 0), x -> x.kinds());
        due("23 and one", 2, new Recipe().modules(24).nets(1, 23), x -> x.kinds());
        due("one and 23", 2, new Recipe().modules(24).nets(1, 0), x -> x.kinds());
        due("24 after module() threw", 24, byNets.tried(x -> x.module()), x -> x.kinds());
    }

    private static void kindsOfPairs() {
        says(21, "How many different ones these are, alike ones being one");
        Recipe pairs = new Recipe().modules(24);
        for (int module = 0; module < 22; module++) {
            pairs = pairs.instance(module, module + 2);
        }
        due("12 twice", 12, pairs, x -> x.kinds());
        due("12 twice, a port of one of the tops", 13, pairs.port(0, 1, true), x -> x.kinds());
        due("12 twice, a net in one of the lowest", 24, pairs.nets(1, 22), x -> x.kinds());
        due("12 twice, a net in one of the middle", 19, pairs.nets(1, 12), x -> x.kinds());
    }

    private static void kindsOfWhatLiesBelow() {
        says(21, "How many different ones these are, alike ones being one");
        Recipe over = BARE.instance(0, 2).instance(1, 3);
        due("two leaves and one over both", 3, over, x -> x.kinds());
        due("a net in one of the leaves", 5, over.nets(1, 3), x -> x.kinds());
        due("a net in both of the leaves", 3, over.nets(1, 3).nets(1, 2), x -> x.kinds());
        due("the sample", 5, Recipe.sample(), x -> x.kinds());
        due("the sample, its copy changed", 6, Recipe.sample().nets(1, 5), x -> x.kinds());
        due("the sample, its copy with a port more", 6, Recipe.sample().port(5, 1, true), x -> x.kinds());
    }
}
