/** How many of each there may be, what is thrown first, and what is left after a call that was refused. */
public final class LimitsTest extends Checks {
    private static final String FIRST_NAMED =
            "Methods throw what their comments name, the one named first when several would do (before NONE)";

    private static final int[] NO_WIDTHS = {LEAST, LEAST + 1, -8, -1, 0, 9, 16, 256, 257, 65537, GREATEST};

    public static void main(String[] args) {
        newObject();
        modulesUpTo24();
        modulesOfEveryKindUpTo24();
        copiesUpTo24();
        flatOnesUpTo24();
        portsUpTo16();
        portsOfAModuleInAnother();
        portsOfAModuleInNone();
        widths();
        instancesUpTo64();
        noModuleInItself();
        noModuleInItselfOverOthers();
        netsUpTo128();
        limitsOfAModuleAreItsOwn();
        firstNamedOfPort();
        firstNamedOfInstance();
        firstNamedOfNetAndCopy();
        firstNamedOfFlat();
        countOfModules();
        clearOfMuch();
        clearOfLimits();
        theLastOf512Calls();
        end();
    }

    private static Recipe modules(int n) {
        return new Recipe().modules(n);
    }

    private static void newObject() {
        says(1, "No modules");
        due("modules()", 0, new Recipe(), x -> x.modules());
        due("kinds()", 0, new Recipe(), x -> x.kinds());
        due("the first module()", 0, new Recipe(), x -> x.module());
        due("NONE", -1, new Recipe(), x -> DesignTrees.NONE);
        due("modules() when another object has some", 0, new Recipe(), x -> {
            new DesignTrees().module();
            return x.modules();
        });
    }

    private static void modulesUpTo24() {
        says(2, "A new module without anything: its number");
        for (int n = 0; n < 24; n++) {
            due("module() when there are " + n, n, modules(n), x -> x.module());
        }
        for (int what = 0; what < 6; what++) {
            int w = what;
            int want = what == 5 ? 1 : 0;
            due("count(0, " + w + ") of the first", want, modules(1), x -> x.count(0, w));
            due("count(23, " + w + ") of the last", want, modules(24), x -> x.count(23, w));
        }
        says(2, "IllegalStateException: there are 24");
        refused("module() when there are 24", STATE, modules(24), x -> x.module());
        refused("module() once more", STATE, modules(24).tried(x -> x.module()), x -> x.module());
    }

    private static void modulesOfEveryKindUpTo24() {
        Recipe oneLess = Recipe.sample().modules(5).copies(6, 2).flat(2).copies(5, 3);
        says(2, "IllegalStateException: there are 24");
        due("modules() of all kinds", 23, oneLess, x -> x.modules());
        due("module(), the last one", 23, oneLess, x -> x.module());
        due("copy(0), the last one", 23, oneLess, x -> x.copy(0));
        due("flat(2), the last one", 23, oneLess, x -> x.flat(2));
        refused("module() behind a module", STATE, oneLess.modules(1), x -> x.module());
        refused("module() behind a copy", STATE, oneLess.copy(0), x -> x.module());
        refused("module() behind a flat one", STATE, oneLess.flat(2), x -> x.module());
    }

    private static void copiesUpTo24() {
        says(11, "IllegalStateException: there are 24");
        due("copy(0) when there is one", 1, modules(1), x -> x.copy(0));
        due("copy(0) when there are 22", 22, modules(22), x -> x.copy(0));
        due("copy(22) when there are 23", 23, modules(23), x -> x.copy(22));
        refused("copy(0) when there are 24", STATE, modules(24), x -> x.copy(0));
        refused("copy(23) when there are 24", STATE, modules(24), x -> x.copy(23));
        refused("copy(0) when there are 24 that share", STATE, modules(1).copies(23, 0), x -> x.copy(0));
    }

    private static void flatOnesUpTo24() {
        says(13, "IllegalStateException: there are 24");
        due("flat(0) when there is one", 1, modules(1), x -> x.flat(0));
        due("flat(0) when there are 22", 22, modules(22), x -> x.flat(0));
        due("flat(22) when there are 23", 23, modules(23), x -> x.flat(22));
        refused("flat(0) when there are 24", STATE, modules(24), x -> x.flat(0));
        refused("flat(23) when there are 24", STATE, modules(24), x -> x.flat(23));
        refused("flat(1) with an instance when there are 24", STATE, modules(24).instance(1, 0), x -> x.flat(1));
    }

    private static void portsUpTo16() {
        says(3, "A port more: its number");
        for (int n = 0; n < 16; n++) {
            Recipe some = modules(2).ports(n, 1, 8, false);
            due("port when there are " + n, n, some, x -> x.port(1, 8, true));
            due("ports when there are " + n, n, some, x -> x.count(1, 0));
            due("pins when there are " + n, 8 * n, some, x -> x.count(1, 3));
        }
        says(3, "IllegalStateException: there are 16");
        Recipe full = modules(2).ports(15, 1, 1, false).port(1, 8, true);
        due("ports of a full one", 16, full, x -> x.count(1, 0));
        due("pins of a full one", 23, full, x -> x.count(1, 3));
        refused("a port in when there are 16", STATE, full, x -> x.port(1, 1, false));
        refused("a port out when there are 16", STATE, full, x -> x.port(1, 8, true));
        due("a port of another module", 0, full, x -> x.port(0, 8, true));
    }

    private static void portsOfAModuleInAnother() {
        says(3, "IllegalStateException: or there is an instance of the module");
        Recipe placed = modules(3).port(0, 1, true).instance(1, 0);
        refused("port of a module that is in another", STATE, placed, x -> x.port(0, 1, true));
        refused("port, two instances of it", STATE, placed.instance(2, 0), x -> x.port(0, 1, true));
        refused("port, the instance is deep in others", STATE, placed.instance(2, 1), x -> x.port(0, 1, true));
        refused("port, its first one", STATE, modules(2).instance(0, 1), x -> x.port(1, 1, true));
        refused("port, the one that has it has a copy", STATE, placed.copy(1), x -> x.port(0, 1, true));
        refused("port, a flat one has it too", STATE, placed.flat(1), x -> x.port(0, 1, true));
        refused("port, the 64th instance alone is of it", STATE,
                modules(3).instances(63, 2, 1).instance(2, 0), x -> x.port(0, 1, true));
    }

    private static void portsOfAModuleInNone() {
        says(3, "IllegalStateException: or there is an instance of the module");
        Recipe placed = modules(3).port(0, 1, true).instance(1, 0);
        due("port of the one that has the instance", 0, placed, x -> x.port(1, 1, true));
        due("port of one beside it", 0, placed, x -> x.port(2, 1, true));
        due("port of a copy of it, which is in none", 1, placed.copy(0), x -> x.port(3, 1, true));
        due("port of a flat one of it, which is in none", 1, placed.flat(0), x -> x.port(3, 1, true));
        due("port of a flat one", 0, placed.flat(1), x -> x.port(3, 1, true));
        due("port when an instance of it was refused", 0, modules(1).instance(0, 0), x -> x.port(0, 1, true));
        due("port when an instance of it threw", 0, modules(3).instances(64, 0, 1).tried(x -> x.instance(0, 2)),
                x -> x.port(2, 1, true));
        due("port of a module with the number of one that was", 0, placed.clear().modules(3),
                x -> x.port(0, 1, true));
    }

    private static void widths() {
        says(3, "IllegalArgumentException: no such width");
        for (int width = 1; width <= 8; width++) {
            int w = width;
            for (boolean out : new boolean[] {false, true}) {
                due("port of width " + w, 0, modules(1), x -> x.port(0, w, out));
            }
            due("pins of width " + w, w, modules(1).port(0, w, true), x -> x.count(0, 3));
        }
        Recipe some = modules(1).port(0, 3, false);
        for (int width : NO_WIDTHS) {
            refused("port in of width " + width, ARGUMENT, some, x -> x.port(0, width, false));
            refused("port out of width " + width, ARGUMENT, some, x -> x.port(0, width, true));
            refused("the first port of width " + width, ARGUMENT, modules(1), x -> x.port(0, width, true));
        }
        refused("the 16th port of width 0", ARGUMENT, modules(1).ports(15, 0, 1, true), x -> x.port(0, 0, true));
        refused("the 16th port of width 9", ARGUMENT, modules(1).ports(15, 0, 8, true), x -> x.port(0, 9, true));
    }

    private static void instancesUpTo64() {
        says(4, "An instance more in a module, of another one: its number");
        for (int n = 0; n < 64; n++) {
            Recipe some = modules(2).instances(n, 0, 1);
            due("instance when there are " + n, n, some, x -> x.instance(0, 1));
            due("instances when there are " + n, n, some, x -> x.count(0, 1));
        }
        says(4, "IllegalStateException: there are 64");
        Recipe full = modules(3).instances(64, 0, 1);
        due("instances of a full one", 64, full, x -> x.count(0, 1));
        refused("instance when there are 64", STATE, full, x -> x.instance(0, 1));
        refused("instance of a third one when there are 64", STATE, full, x -> x.instance(0, 2));
        refused("instance in a full flat one", STATE, full.flat(0), x -> x.instance(3, 1));
        refused("instance in a full one that shares", STATE, full.copy(0), x -> x.instance(3, 1));
        due("instance in another one", 0, full, x -> x.instance(2, 0));
    }

    private static void noModuleInItself() {
        says(4, "NONE if a module would be in itself (directly)");
        refused("instance(0, 0) of the only one", NONE, modules(1), x -> x.instance(0, 0));
        refused("instance(23, 23)", NONE, modules(24), x -> x.instance(23, 23));
        refused("instance(0, 0) with 63 instances", NONE, modules(2).instances(63, 0, 1), x -> x.instance(0, 0));
        refused("instance of itself in one that shares", NONE, modules(1).copy(0), x -> x.instance(1, 1));
        due("instance of its copy", 0, modules(1).copy(0), x -> x.instance(0, 1));
        due("instance of what it is a copy of", 0, modules(1).copy(0), x -> x.instance(1, 0));
        due("instance of its flat one", 1, modules(2).instance(0, 1).flat(0), x -> x.instance(0, 2));
        due("instance in its flat one", 1, modules(2).instance(0, 1).flat(0), x -> x.instance(2, 0));
    }

    private static void noModuleInItselfOverOthers() {
        says(4, "NONE if a module would be in itself (over others)");
        refused("over one", NONE, modules(2).instance(0, 1), x -> x.instance(1, 0));
        Recipe copied = modules(1).copy(0).instance(0, 1);
        refused("over its copy", NONE, copied, x -> x.instance(1, 0));
        refused("over the 64th instance", NONE, modules(3).instances(63, 0, 1).instance(0, 2),
                x -> x.instance(2, 0));
        Recipe inCopy = modules(2).instance(0, 1).copy(0);
        refused("over a copy of the one that has it", NONE, inCopy, x -> x.instance(1, 2));
        Recipe deep = Recipe.chain(1, 1, 1, 1, 1, 1, 1, 1, 1, 1, 1, 1, 1, 1, 1, 1, 1, 1, 1, 1, 1, 1, 1);
        due("modules of the chain", 24, deep, x -> x.modules());
        refused("over 22 others", NONE, deep, x -> x.instance(0, 23));
        refused("over 21 others", NONE, deep, x -> x.instance(1, 23));
        due("the lowest in the top, beside", 1, deep, x -> x.instance(23, 0));
        due("one that is in it already", 1, deep, x -> x.instance(23, 22));
    }

    private static void netsUpTo128() {
        says(5, "A net more: its number");
        for (int n : new int[] {0, 1, 2, 63, 64, 126, 127}) {
            Recipe some = modules(2).nets(n, 1);
            due("net when there are " + n, n, some, x -> x.net(1));
            due("nets when there are " + n, n, some, x -> x.count(1, 2));
            due("pins of the new one", 0, some.nets(1, 1), x -> x.pins(1, n));
        }
        says(5, "IllegalStateException: there are 128");
        Recipe full = modules(2).nets(128, 1);
        due("nets of a full one", 128, full, x -> x.count(1, 2));
        refused("net when there are 128", STATE, full, x -> x.net(1));
        refused("net in a full one that shares", STATE, full.copy(1), x -> x.net(2));
        refused("net in a full flat one", STATE, full.flat(1), x -> x.net(2));
        due("net of another module", 0, full, x -> x.net(0));
    }

    private static void limitsOfAModuleAreItsOwn() {
        says(5, "A module has PORTS (16 at most), INSTANCES (64 at most), NETS (128 at most)");
        Recipe full = modules(2).ports(16, 0, 8, true).instances(64, 0, 1).nets(128, 0);
        refused("port when all is full", STATE, full, x -> x.port(0, 8, true));
        refused("instance when all is full", STATE, full, x -> x.instance(0, 1));
        refused("net when all is full", STATE, full, x -> x.net(0));
        due("pins when all is full", 128, full, x -> x.count(0, 3));
        due("instances when all is full", 64, full, x -> x.count(0, 1));
        due("nets when all is full", 128, full, x -> x.count(0, 2));
    }

    private static void firstNamedOfPort() {
        says(3, FIRST_NAMED);
        Recipe full = modules(2).ports(16, 0, 1, true);
        Recipe placed = modules(2).port(0, 1, true).instance(1, 0);
        Recipe both = full.instance(1, 0);
        for (int width : NO_WIDTHS) {
            refused("no module, width " + width, INDEX, full, x -> x.port(2, width, true));
            refused("there are 16, width " + width, STATE, full, x -> x.port(0, width, true));
            refused("it is in another, width " + width, STATE, placed, x -> x.port(0, width, true));
            refused("both, width " + width, STATE, both, x -> x.port(0, width, true));
        }
        refused("no module and no width in a new object", INDEX, new Recipe(), x -> x.port(0, 0, true));
        refused("there are 16 and it is in another", STATE, both, x -> x.port(0, 1, true));
    }

    private static void firstNamedOfInstance() {
        says(4, FIRST_NAMED);
        Recipe full = modules(3).instances(64, 0, 1);
        for (int none : new int[] {LEAST, -1, 3, GREATEST}) {
            refused("there are 64, of module " + none, INDEX, full, x -> x.instance(0, none));
            refused("in module " + none, INDEX, full, x -> x.instance(none, 0));
            refused("in and of module " + none, INDEX, full, x -> x.instance(none, none));
        }
        refused("there are 64, in itself", STATE, full, x -> x.instance(0, 0));
        refused("there are 64, in itself over another", STATE, full.instance(2, 0), x -> x.instance(0, 2));
    }

    private static void firstNamedOfNetAndCopy() {
        Recipe full = modules(24).nets(128, 0);
        for (int none : new int[] {LEAST, -1, 24, GREATEST}) {
            says(5, FIRST_NAMED);
            refused("there are 128 in the first, net of " + none, INDEX, full, x -> x.net(none));
            says(11, FIRST_NAMED);
            refused("there are 24, copy of " + none, INDEX, full, x -> x.copy(none));
        }
    }

    private static void firstNamedOfFlat() {
        says(13, FIRST_NAMED);
        Recipe large = Recipe.chain(13, 5);
        Recipe full = large.modules(21);
        refused("too large, there is room", UNSUPPORTED, large.modules(20), x -> x.flat(2));
        refused("too large, there are 24", STATE, full, x -> x.flat(2));
        for (int none : new int[] {LEAST, -1, 24, GREATEST}) {
            refused("there are 24, flat of " + none, INDEX, full, x -> x.flat(none));
        }
        Recipe manyNets = modules(23).instance(1, 0).nets(65, 1).instances(2, 2, 1);
        refused("130 nets, there is room", UNSUPPORTED, manyNets, x -> x.flat(2));
        refused("130 nets, there are 24", STATE, manyNets.modules(1), x -> x.flat(2));
    }

    private static void countOfModules() {
        says(20, "How many modules there are");
        for (int n = 0; n <= 24; n++) {
            due("modules()", n, modules(n), x -> x.modules());
        }
        due("modules() after module() threw", 24, modules(24).tried(x -> x.module()), x -> x.modules());
        due("modules() after copy threw", 3, modules(3).tried(x -> x.copy(3)), x -> x.modules());
        due("modules() after flat threw", 3, Recipe.chain(13, 5).tried(x -> x.flat(2)), x -> x.modules());
    }

    private static void clearOfMuch() {
        says(22, "No modules");
        Recipe sample = Recipe.sample();
        sameDesign("clear of a new object", new Recipe(), new Recipe().clear());
        sameDesign("clear of one", new Recipe(), modules(1).clear());
        sameDesign("clear of 24", new Recipe(), modules(24).clear());
        sameDesign("clear of the sample", new Recipe(), sample.clear());
        sameDesign("clear twice", new Recipe(), sample.clear().clear());
        sameDesign("the sample after clear of 24", sample, modules(24).clear().then(sample));
        sameDesign("the sample after clear of itself", sample, sample.clear().then(sample));
        sameDesign("24 modules after clear of the sample", modules(24), sample.clear().modules(24));
    }

    /** What was full, shared, in another or too large before is nothing of the kind after. */
    private static void clearOfLimits() {
        says(22, "No modules");
        Recipe full = modules(23).ports(16, 0, 8, true).instances(64, 1, 0).nets(128, 1).copy(1).clear();
        due("module()", 0, full, x -> x.module());
        sameDesign("24 modules", modules(24), full.modules(24));
        sameDesign("16 ports", modules(2).ports(16, 0, 1, false), full.modules(2).ports(16, 0, 1, false));
        sameDesign("an instance", modules(2).instance(0, 1), full.modules(2).instance(0, 1));
        sameDesign("nets", modules(2).nets(3, 1), full.modules(2).nets(3, 1));
        sameDesign("a flat one", modules(2).instance(1, 0).flat(1), full.modules(2).instance(1, 0).flat(1));
    }

    private static void theLastOf512Calls() {
        says(22, "An object is used for at most 512 calls after it has been made");
        Recipe sample = Recipe.sample();
        sameDesign("all as a 512th call", sample, sample.askedToTheLast());
        Recipe again = new Recipe();
        for (int i = 0; i < 15; i++) {
            again = again.then(sample).clear();
        }
        sameDesign("all after many designs", sample, again.then(sample).askedToTheLast());
        Recipe turns = sample.nets(1, 4).port(4, 1, true);
        Recipe turned = turns;
        for (int i = 0; i < 200; i++) {
            turned = turned.join(4, 0, NONE, 0).part(4, NONE, 0);
        }
        sameDesign("all after many turns", turns, turned.askedToTheLast());
        Recipe refusals = Recipe.chain(13, 5);
        sameDesign("all after 480 refusals", refusals,
                refusals.times(480, x -> Recipe.answer(x, y -> y.flat(2))));
    }
}
