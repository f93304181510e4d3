/** Copies: what they share, what ends it, and what is each one's own. */
public final class CopyEdgesTest extends Checks {
    private static final Recipe SAMPLE = Recipe.sample();

    private interface Change {
        Recipe of(Recipe recipe, int module);
    }

    private record NamedChange(String name, Change change) { }

    /** Each of them changes the inside of module 0 of the sample, and of a copy of it. */
    private static final NamedChange[] CHANGES = {
        new NamedChange("an instance more", (recipe, module) -> recipe.instance(module, 1)),
        new NamedChange("a net more", (recipe, module) -> recipe.nets(1, module)),
        new NamedChange("an own pin into a net", (recipe, module) -> recipe.join(module, 0, NONE, 2)),
        new NamedChange("an instance's pin into a net", (recipe, module) -> recipe.join(module, 0, 1, 1)),
        new NamedChange("a pin into another net", (recipe, module) -> recipe.join(module, 3, NONE, 0)),
        new NamedChange("an own pin out of a net", (recipe, module) -> recipe.part(module, NONE, 3)),
        new NamedChange("an instance's pin out of a net", (recipe, module) -> recipe.part(module, 1, 2)),
    };

    public static void main(String[] args) {
        copyOfNothing();
        copyOfMuch();
        copyOfAFlatOne();
        sharedWithItself();
        sharedByCopies();
        sharedUntilChanged();
        sharedNoMoreAfterAChangeBack();
        sharedByOthersStill();
        sharedByTwentyFour();
        sharedAfterWhatIsNoChange();
        changesAreSeenInOneAlone();
        portsAreEachOnesOwn();
        portsOfCopiesUpTo16();
        pinsOfOwnPorts();
        notSharedWithoutCopying();
        end();
    }

    private static void copyOfNothing() {
        says(11, "A COPY has the same ports, instances and nets");
        Recipe copied = new Recipe().modules(1).copy(0);
        due("a copy of a module without anything", 1, new Recipe().modules(1), x -> x.copy(0));
        sameModule("a copy of a module without anything", copied, 0, 1);
        due("its leaves", 1, copied, x -> x.count(1, 5));
    }

    private static void copyOfMuch() {
        says(11, "A COPY has the same ports, instances and nets");
        Recipe full = new Recipe().modules(2).ports(15, 0, 8, true).port(0, 8, false).ports(2, 1, 2, false)
                .instances(64, 0, 1).nets(128, 0).join(0, 127, NONE, 127).join(0, 0, NONE, 0)
                .join(0, 127, 63, 3).join(0, 64, 0, 0).copy(0);
        sameModule("a copy of a full one", full, 0, 2);
        due("it is alike", true, full, x -> x.alike(0, 2));
        refused("port of a full copy", STATE, full, x -> x.port(2, 1, true));
        refused("instance in a full copy", STATE, full, x -> x.instance(2, 1));
        refused("net in a full copy", STATE, full, x -> x.net(2));
        due("the copy's last pin", 127, full, x -> x.netOf(2, 63, 3));
        for (int module = 0; module < 6; module++) {
            int m = module;
            due("a copy of module " + m, 6, SAMPLE, x -> x.copy(m));
            sameModule("a copy of module " + m, SAMPLE.copy(m), m, 6);
            sameModule("a copy of a copy of module " + m, SAMPLE.copy(m).copy(6), m, 7);
        }
    }

    private static void copyOfAFlatOne() {
        says(14, "An instance that was not made by laying out flat (nor is a copy's of one that was)");
        Recipe copied = SAMPLE.copy(3);
        for (int instance = 0; instance < 4; instance++) {
            int i = instance;
            due("the way's first in the copy", i / 2, copied, x -> x.path(6, i, 0));
            due("the way's last in the copy", i % 2, copied, x -> x.path(6, i, 1));
            due("behind it in the copy", NONE, copied, x -> x.path(6, i, 2));
            due("the way in a changed copy", i % 2, copied.nets(1, 6), x -> x.path(6, i, 1));
            due("the way in a changed first one", i % 2, copied.nets(1, 3), x -> x.path(3, i, 1));
            due("the way in a copy's copy", i % 2, copied.copy(6), x -> x.path(7, i, 1));
        }
        Recipe more = copied.instance(6, 1);
        due("one more in the copy", 4, more, x -> x.path(6, 4, 0));
        due("one more in the copy, its own number alone", NONE, more, x -> x.path(6, 4, 1));
    }

    private static void sharedWithItself() {
        says(12, "each with itself does");
        due("the only one", true, new Recipe().modules(1), x -> x.shared(0, 0));
        due("the last of 24", true, new Recipe().modules(24), x -> x.shared(23, 23));
        for (int module = 0; module < 6; module++) {
            int m = module;
            due("module " + m, true, SAMPLE, x -> x.shared(m, m));
            due("module " + m + " when changed", true, SAMPLE.nets(1, m), x -> x.shared(m, m));
        }
    }

    private static void sharedByCopies() {
        says(12, "Both SHARE their inside (and so on with copies of copies)");
        Recipe copies = new Recipe().modules(1).copy(0).copy(1).copy(2).copy(0);
        for (int a = 0; a < 5; a++) {
            for (int b = 0; b < 5; b++) {
                int one = a;
                int other = b;
                due(one + " with " + other, true, copies, x -> x.shared(one, other));
            }
        }
    }

    private static void sharedUntilChanged() {
        says(12, "until the inside of one of them is changed");
        for (NamedChange named : CHANGES) {
            Recipe first = named.change.of(SAMPLE, 0);
            Recipe second = named.change.of(SAMPLE, 5);
            due("before " + named.name, true, SAMPLE, x -> x.shared(0, 5));
            due(named.name + " in the first one", false, first, x -> x.shared(0, 5));
            due(named.name + " in the first one, the other way", false, first, x -> x.shared(5, 0));
            due(named.name + " in the copy", false, second, x -> x.shared(0, 5));
            due(named.name + " in the copy, the other way", false, second, x -> x.shared(5, 0));
        }
    }

    private static void sharedNoMoreAfterAChangeBack() {
        says(12, "until the inside of one of them is changed");
        Recipe back = SAMPLE.join(5, 0, NONE, 2).part(5, NONE, 2);
        due("a pin in and out again", false, back, x -> x.shared(0, 5));
        due("it is alike", true, back, x -> x.alike(0, 5));
        Recipe both = SAMPLE.nets(1, 0).nets(1, 5);
        due("the same change of both", false, both, x -> x.shared(0, 5));
        due("the same change of both is alike", true, both, x -> x.alike(0, 5));
        due("a new copy shares again", true, back.copy(5), x -> x.shared(5, 6));
        due("and not with the first one", false, back.copy(5), x -> x.shared(0, 6));
    }

    private static void sharedByOthersStill() {
        says(12, "until the inside of one of them is changed");
        Recipe copies = SAMPLE.copy(5).copy(0);
        int[] sharing = {0, 5, 6, 7};
        for (NamedChange named : CHANGES) {
            for (int changed : sharing) {
                Recipe after = named.change.of(copies, changed);
                for (int a : sharing) {
                    for (int b : sharing) {
                        boolean due = a == b || a != changed && b != changed;
                        due(named.name + " in " + changed, due, after, x -> x.shared(a, b));
                    }
                }
            }
        }
    }

    private static void sharedByTwentyFour() {
        says(12, "Both SHARE their inside (and so on with copies of copies)");
        Recipe all = new Recipe().modules(1).copies(23, 0);
        due("the first and the last", true, all, x -> x.shared(0, 23));
        Recipe after = all.nets(1, 12);
        due("the first and the last when one was changed", true, after, x -> x.shared(0, 23));
        due("the changed one and the one before", false, after, x -> x.shared(11, 12));
        due("the changed one and the one behind", false, after, x -> x.shared(12, 13));
        Recipe apart = new Recipe().modules(1).copies(23, 0);
        for (int module = 0; module < 23; module++) {
            apart = apart.nets(module + 1, module);
        }
        for (int module = 0; module < 24; module++) {
            int m = module;
            due("nets of each when all were changed", m == 23 ? 0 : m + 1, apart, x -> x.count(m, 2));
        }
    }

    private static void sharedAfterWhatIsNoChange() {
        says(12, "until the inside of one of them is changed");
        for (int module : new int[] {0, 5}) {
            refused("a pin that is in the net", false, SAMPLE, x -> x.join(module, 0, NONE, 0));
            refused("a pin that is in no net", false, SAMPLE, x -> x.part(module, NONE, 2));
            refused("an instance that is refused", NONE, SAMPLE, x -> x.instance(module, module));
            refused("an instance of none", INDEX, SAMPLE, x -> x.instance(module, 6));
            refused("a pin of none", INDEX, SAMPLE, x -> x.join(module, 0, NONE, 4));
            due("a flat one of it", true, SAMPLE.flat(module), x -> x.shared(0, 5));
            due("a copy of it", true, SAMPLE.copy(module), x -> x.shared(0, 5));
            due("an instance of it", true, SAMPLE.instance(4, module), x -> x.shared(0, 5));
        }
        due("a change of what is in both", true, SAMPLE.nets(1, 1).instance(1, 4), x -> x.shared(0, 5));
        due("a port more", true, SAMPLE.port(5, 1, true), x -> x.shared(0, 5));
    }

    private static void changesAreSeenInOneAlone() {
        says(11, "copies share their inside until one is changed");
        for (NamedChange named : CHANGES) {
            Recipe first = named.change.of(SAMPLE, 0);
            Recipe second = named.change.of(SAMPLE, 5);
            due(named.name + " in the first one is not alike", false, first, x -> x.alike(0, 5));
            due(named.name + " in the copy is not alike", false, second, x -> x.alike(0, 5));
            sameModule(named.name + " in both", named.change.of(first, 5), 0, 5);
            Recipe kept = SAMPLE.copy(0);
            sameModule("the others after " + named.name, named.change.of(kept, 5), 0, 6);
            due("they are as before " + named.name, true, named.change.of(kept, 0), x -> x.alike(5, 6));
        }
    }

    private static void portsAreEachOnesOwn() {
        says(11, "Ports are each one's own");
        Recipe copied = new Recipe().modules(1).port(0, 2, false).nets(1, 0).join(0, 0, NONE, 1).copy(0);
        Recipe more = copied.port(1, 8, true);
        due("ports of the copy", 2, more, x -> x.count(1, 0));
        due("ports of the first one", 1, more, x -> x.count(0, 0));
        due("pins of the copy", 10, more, x -> x.count(1, 3));
        due("pins of the first one", 2, more, x -> x.count(0, 3));
        due("they share still", true, more, x -> x.shared(0, 1));
        due("they are not alike", false, more, x -> x.alike(0, 1));
        Recipe both = more.port(0, 8, true);
        due("the same port of both is alike", true, both, x -> x.alike(0, 1));
        due("the same port of both shares", true, both, x -> x.shared(0, 1));
        Recipe other = more.port(0, 8, false);
        due("another port is not alike", false, other, x -> x.alike(0, 1));
        due("another port shares", true, other, x -> x.shared(0, 1));
    }

    private static void portsOfCopiesUpTo16() {
        says(3, "IllegalStateException: there are 16");
        Recipe copied = new Recipe().modules(1).ports(15, 0, 1, true).copy(0);
        due("the copy's 16th", 15, copied, x -> x.port(1, 1, true));
        Recipe full = copied.port(1, 1, true);
        refused("the copy's 17th", STATE, full, x -> x.port(1, 1, true));
        due("the first one's 16th", 15, full, x -> x.port(0, 1, true));
        refused("the first one's 17th", STATE, full.port(0, 1, true), x -> x.port(0, 1, true));
        says(3, "IllegalStateException: or there is an instance of the module");
        Recipe placed = new Recipe().modules(2).instance(1, 0).copy(0);
        refused("the first one, which is in another", STATE, placed, x -> x.port(0, 1, true));
        due("the copy, which is in none", 0, placed, x -> x.port(2, 1, true));
        Recipe copyPlaced = new Recipe().modules(2).copy(0).instance(1, 2);
        refused("the copy, which is in another", STATE, copyPlaced, x -> x.port(2, 1, true));
        due("the first one, which is in none", 0, copyPlaced, x -> x.port(0, 1, true));
    }

    /** Own pins of ports that one sharer has and the other has not, or has the other way. */
    private static void pinsOfOwnPorts() {
        says(11, "Ports are each one's own");
        Recipe copied = new Recipe().modules(1).nets(2, 0).copy(0).port(0, 1, false).port(1, 2, true);
        due("they share", true, copied, x -> x.shared(0, 1));
        refused("a pin that the copy alone has", INDEX, copied, x -> x.join(0, 0, NONE, 1));
        due("the copy's pin", true, copied, x -> x.join(1, 0, NONE, 1));
        Recipe joined = copied.join(1, 0, NONE, 0).join(1, 0, NONE, 1);
        due("pins of the copy's net", 2, joined, x -> x.pins(1, 0));
        due("pins of the first one's net", 0, joined, x -> x.pins(0, 0));
        due("the first one's pin is in none", NONE, joined, x -> x.netOf(0, NONE, 0));
        due("the copy's pin drives nothing", 0, joined, x -> x.pin(1, 0, 0, 2));
        due("the copy's net is open", 0, joined, x -> x.open(1, 0));
        due("the first one's pin drives", 1, joined.join(0, 0, NONE, 0), x -> x.pin(0, 0, 0, 2));
        due("a port of the first one brings a new pin", NONE, joined.port(0, 1, true), x -> x.netOf(0, NONE, 1));
    }

    private static void notSharedWithoutCopying() {
        says(12, "Whether two modules share their inside");
        due("two without anything", false, new Recipe().modules(2), x -> x.shared(0, 1));
        due("a flat one of a leaf", false, new Recipe().modules(1).flat(0), x -> x.shared(0, 1));
        due("a flat one of a flat one", false, SAMPLE.flat(3), x -> x.shared(3, 6));
        due("a flat one of a copy", false, SAMPLE.flat(5), x -> x.shared(0, 6));
        due("the one that has it", false, SAMPLE, x -> x.shared(0, 2));
        due("after clear", false, SAMPLE.clear().modules(6), x -> x.shared(0, 5));
    }
}
