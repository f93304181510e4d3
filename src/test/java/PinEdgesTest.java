/** Pins and nets: none, one, all of them; what drives, what is driven twice and what nothing drives. */
public final class PinEdgesTest extends Checks {
    /** 0: own pins 0 .. 7 in, 8 .. 15 out, two instances of 1, three nets. 1: pin 0 in, 1 .. 8 out, 9 in. */
    private static final Recipe PAIR = new Recipe().modules(2)
            .port(0, 8, false).port(0, 8, true).port(1, 1, false).port(1, 8, true).port(1, 1, false)
            .instances(2, 0, 1).nets(3, 0);

    private interface KthNet {
        int of(DesignTrees x, int k);
    }

    private static final KthNet DOUBLED = (x, k) -> x.doubled(0, k);
    private static final KthNet OPEN = (x, k) -> x.open(0, k);

    /** 128 own pins and 128 of an instance, whose ways are chosen; 128 nets. */
    private static Recipe wide(boolean ownOut, boolean instanceOut) {
        return new Recipe().modules(2).ports(16, 0, 8, ownOut).ports(16, 1, 8, instanceOut)
                .instance(0, 1).nets(128, 0);
    }

    public static void main(String[] args) {
        pinsInOrderOfPorts();
        joinIntoNone();
        joinIntoAnother();
        joinIntoTheSame();
        joinOfTheLastOnes();
        partOfAPin();
        partOfNone();
        netOfAPin();
        pinsOfANet();
        pinsOfAllInOneNet();
        pinsOfManyInstances();
        placesOfPins();
        whichPinsDrive();
        driversOfANet();
        doubledOfNone();
        doubledOfAll();
        doubledByPlaces();
        openOfNone();
        openOfAll();
        openByPlaces();
        end();
    }

    private static void pinsInOrderOfPorts() {
        says(10, "PINS of a module are its ports' bits, port by port, bit by bit, from 0 on");
        int[] ends = {0, 1, 8, 9};
        int[] drives = {0, 1, 1, 0};
        for (int i = 0; i < ends.length; i++) {
            int pin = ends[i];
            Recipe joined = PAIR.join(0, 0, 1, pin);
            due("the pin at a port's end", pin, joined, x -> x.pin(0, 0, 0, 1));
            due("whether pin " + pin + " drives", drives[i], joined, x -> x.pin(0, 0, 0, 2));
        }
        due("own pin 7, the last in", 1, PAIR.join(0, 0, NONE, 7), x -> x.pin(0, 0, 0, 2));
        due("own pin 8, the first out", 0, PAIR.join(0, 0, NONE, 8), x -> x.pin(0, 0, 0, 2));
        due("own pin 15, the last one", true, PAIR, x -> x.join(0, 0, NONE, 15));
        refused("own pin 16", INDEX, PAIR, x -> x.join(0, 0, NONE, 16));
        due("pins", 16, PAIR, x -> x.count(0, 3));
        due("pins without ports", 0, new Recipe().modules(1), x -> x.count(0, 3));
        Recipe late = new Recipe().modules(1).port(0, 8, false).nets(1, 0).join(0, 0, NONE, 7);
        due("a pin that a port brought later", NONE, late.port(0, 1, true), x -> x.netOf(0, NONE, 8));
        due("the one before it", 0, late.port(0, 1, true), x -> x.netOf(0, NONE, 7));
    }

    private static void joinIntoNone() {
        says(6, "whether it was not in it");
        for (int instance : new int[] {NONE, 0, 1}) {
            for (int net : new int[] {0, 2}) {
                Recipe joined = PAIR.join(0, net, instance, 9);
                due("join of one that is in no net", true, PAIR, x -> x.join(0, net, instance, 9));
                due("its net", net, joined, x -> x.netOf(0, instance, 9));
                due("the net's pins", 1, joined, x -> x.pins(0, net));
                due("its instance", instance, joined, x -> x.pin(0, net, 0, 0));
                due("its pin", 9, joined, x -> x.pin(0, net, 0, 1));
            }
        }
        Recipe joined = PAIR.join(0, 0, 0, 9);
        due("the pin of the same number, an own one", NONE, joined, x -> x.netOf(0, NONE, 9));
        due("the pin of the same number, another instance", NONE, joined, x -> x.netOf(0, 1, 9));
        due("the pin before", NONE, joined, x -> x.netOf(0, 0, 8));
    }

    private static void joinIntoAnother() {
        says(6, "A pin comes into a net, out of the one it was in");
        for (int instance : new int[] {NONE, 1}) {
            Recipe joined = PAIR.join(0, 2, instance, 0);
            due("join into another net", true, joined, x -> x.join(0, 0, instance, 0));
            Recipe moved = joined.join(0, 0, instance, 0);
            due("its net", 0, moved, x -> x.netOf(0, instance, 0));
            due("pins of the net it was in", 0, moved, x -> x.pins(0, 2));
            due("pins of the net it is in", 1, moved, x -> x.pins(0, 0));
            refused("the first pin of the net it was in", INDEX, moved, x -> x.pin(0, 2, 0, 0));
            sameDesign("as if it had come there at once", PAIR.join(0, 0, instance, 0), moved);
        }
    }

    private static void joinIntoTheSame() {
        says(6, "whether it was not in it");
        for (int instance : new int[] {NONE, 0, 1}) {
            for (int net : new int[] {0, 2}) {
                refused("join again", false, PAIR.join(0, net, instance, 0), x -> x.join(0, net, instance, 0));
            }
        }
        refused("join again in one that shares", false, PAIR.join(0, 1, 0, 3).copy(0), x -> x.join(2, 1, 0, 3));
    }

    private static void joinOfTheLastOnes() {
        says(6, "A pin (instance NONE: an own one) comes into a net");
        Recipe full = new Recipe().modules(2).ports(16, 0, 8, true).ports(16, 1, 8, true)
                .instances(64, 0, 1).nets(128, 0);
        for (int instance : new int[] {NONE, 0, 63}) {
            for (int pin : new int[] {0, 127}) {
                for (int net : new int[] {0, 127}) {
                    due("join", true, full, x -> x.join(0, net, instance, pin));
                    Recipe joined = full.join(0, net, instance, pin);
                    due("join again", false, joined, x -> x.join(0, net, instance, pin));
                    due("its net", net, joined, x -> x.netOf(0, instance, pin));
                    due("its instance", instance, joined, x -> x.pin(0, net, 0, 0));
                    due("its pin", pin, joined, x -> x.pin(0, net, 0, 1));
                    refused("no second one", INDEX, joined, x -> x.pin(0, net, 1, 0));
                    due("pins", 1, joined, x -> x.pins(0, net));
                    due("part", true, joined, x -> x.part(0, instance, pin));
                }
            }
        }
    }

    private static void partOfAPin() {
        says(7, "A pin comes out of its net: whether it was in one");
        for (int instance : new int[] {NONE, 0, 1}) {
            for (int net : new int[] {0, 2}) {
                Recipe joined = PAIR.join(0, net, instance, 9);
                due("part of a pin in a net", true, joined, x -> x.part(0, instance, 9));
                sameDesign("as if it had never been in it", PAIR, joined.part(0, instance, 9));
            }
        }
        Recipe two = PAIR.join(0, 0, 0, 1).join(0, 0, 1, 1);
        sameDesign("the others stay in it", PAIR.join(0, 0, 1, 1), two.part(0, 0, 1));
    }

    private static void partOfNone() {
        says(7, "whether it was in one");
        for (int instance : new int[] {NONE, 0, 1}) {
            refused("part of a pin in no net", false, PAIR, x -> x.part(0, instance, 0));
            refused("part when the next pin is in one", false, PAIR.join(0, 0, instance, 1),
                    x -> x.part(0, instance, 0));
            refused("part again", false, PAIR.join(0, 0, instance, 0).part(0, instance, 0),
                    x -> x.part(0, instance, 0));
        }
        refused("part of none where there is no net", false, new Recipe().modules(1).port(0, 1, true),
                x -> x.part(0, NONE, 0));
        refused("part of none in one that shares", false, PAIR.copy(0), x -> x.part(2, 0, 0));
    }

    private static void netOfAPin() {
        says(8, "The net that a pin is in; NONE");
        due("an own pin in none", NONE, PAIR, x -> x.netOf(0, NONE, 0));
        due("an instance's pin in none", NONE, PAIR, x -> x.netOf(0, 1, 9));
        due("an own pin in the first", 0, PAIR.join(0, 0, NONE, 0), x -> x.netOf(0, NONE, 0));
        due("an own pin in the last", 2, PAIR.join(0, 2, NONE, 15), x -> x.netOf(0, NONE, 15));
        due("an instance's pin in the first", 0, PAIR.join(0, 0, 1, 9), x -> x.netOf(0, 1, 9));
        due("an instance's pin in the last", 2, PAIR.join(0, 2, 1, 9), x -> x.netOf(0, 1, 9));
        due("the instance's module's own pin", NONE, PAIR.nets(1, 1).join(0, 0, 0, 9), x -> x.netOf(1, NONE, 9));
    }

    private static void pinsOfANet() {
        says(9, "How many pins are in a net");
        Recipe joined = PAIR;
        due("none", 0, joined, x -> x.pins(0, 1));
        int all = 0;
        for (int instance : new int[] {1, NONE, 0}) {
            for (int pin : new int[] {9, 0, 5}) {
                all++;
                joined = joined.join(0, 1, instance, pin);
                due("so many", all, joined, x -> x.pins(0, 1));
                due("the net before", 0, joined, x -> x.pins(0, 0));
                due("the net behind", 0, joined, x -> x.pins(0, 2));
            }
        }
    }

    private static void pinsOfAllInOneNet() {
        says(9, "How many pins are in a net");
        Recipe all = wide(false, true);
        for (int pin = 0; pin < 128; pin++) {
            all = all.join(0, 127, NONE, pin).join(0, 127, 0, 127 - pin);
        }
        due("all pins", 256, all, x -> x.pins(0, 127));
        due("all in one, another net", 0, all, x -> x.pins(0, 126));
        says(10, "The k-th pin of a net (own ones first, then by instances, then by pins)");
        for (int k : new int[] {0, 1, 126, 127, 128, 129, 254, 255}) {
            due("instance at " + k, k < 128 ? NONE : 0, all, x -> x.pin(0, 127, k, 0));
            due("pin at " + k, k % 128, all, x -> x.pin(0, 127, k, 1));
            due("whether it drives at " + k, 1, all, x -> x.pin(0, 127, k, 2));
        }
        for (int k : new int[] {LEAST, -1, 256, 257, GREATEST}) {
            refused("place " + k, INDEX, all, x -> x.pin(0, 127, k, 0));
        }
    }

    private static void pinsOfManyInstances() {
        says(10, "The k-th pin of a net (own ones first, then by instances, then by pins)");
        Recipe many = new Recipe().modules(2).port(0, 1, true).port(1, 2, true).instances(64, 0, 1).nets(1, 0);
        for (int instance = 63; instance >= 0; instance--) {
            many = many.join(0, 0, instance, 1).join(0, 0, instance, 0);
        }
        Recipe all = many.join(0, 0, NONE, 0);
        due("pins", 129, all, x -> x.pins(0, 0));
        for (int k : new int[] {1, 2, 3, 64, 127, 128}) {
            due("instance at " + k, (k - 1) / 2, all, x -> x.pin(0, 0, k, 0));
            due("pin at " + k, (k - 1) % 2, all, x -> x.pin(0, 0, k, 1));
        }
        due("the own one first", NONE, all, x -> x.pin(0, 0, 0, 0));
        refused("behind the last one", INDEX, all, x -> x.pin(0, 0, 129, 0));
    }

    private static void placesOfPins() {
        says(10, "The k-th pin of a net (own ones first, then by instances, then by pins)");
        Recipe mixed = PAIR.join(0, 1, 1, 9).join(0, 1, 0, 0).join(0, 1, NONE, 15).join(0, 1, 1, 0)
                .join(0, 1, NONE, 0).join(0, 1, 0, 9);
        int[][] due = {{NONE, 0, 1}, {NONE, 15, 0}, {0, 0, 0}, {0, 9, 0}, {1, 0, 0}, {1, 9, 0}};
        for (int i = 0; i < due.length; i++) {
            int k = i;
            due("instance at " + k, due[k][0], mixed, x -> x.pin(0, 1, k, 0));
            due("pin at " + k, due[k][1], mixed, x -> x.pin(0, 1, k, 1));
            due("whether it drives at " + k, due[k][2], mixed, x -> x.pin(0, 1, k, 2));
        }
        refused("behind the last one", INDEX, mixed, x -> x.pin(0, 1, 6, 0));
        Recipe fewer = mixed.part(0, NONE, 0);
        due("the first one after it came out", 15, fewer, x -> x.pin(0, 1, 0, 1));
        refused("behind the last one after one came out", INDEX, fewer, x -> x.pin(0, 1, 5, 0));
    }

    private static void whichPinsDrive() {
        says(10, "A pin DRIVES its net if it is an own one of a port that is IN, or an instance's of one that is OUT");
        for (boolean out : new boolean[] {false, true}) {
            Recipe one = new Recipe().modules(2).port(0, 1, out).port(1, 1, out).instance(0, 1).nets(1, 0);
            due("an own one, out " + out, out ? 0 : 1, one.join(0, 0, NONE, 0), x -> x.pin(0, 0, 0, 2));
            due("an instance's, out " + out, out ? 1 : 0, one.join(0, 0, 0, 0), x -> x.pin(0, 0, 0, 2));
        }
    }

    /** Drivers 0, 1, 2 and 3 beside none or one that does not drive. */
    private static void driversOfANet() {
        for (int drivers = 0; drivers <= 3; drivers++) {
            for (int others = 0; others <= 1; others++) {
                Recipe net = PAIR;
                for (int i = 0; i < drivers; i++) {
                    net = i == 0 ? net.join(0, 1, NONE, 7) : net.join(0, 1, i - 1, 1);
                }
                net = others == 0 ? net : net.join(0, 1, 0, 0);
                String what = drivers + " that drive and " + others + " that do not";
                says(15, "The k-th net with two pins or more that drive");
                due(what, drivers >= 2 ? 1 : NONE, net, x -> x.doubled(0, 0));
                due(what + ", no second net", NONE, net, x -> x.doubled(0, 1));
                says(16, "The k-th net with a pin and none that drives");
                due(what, drivers == 0 && others == 1 ? 1 : NONE, net, x -> x.open(0, 0));
                due(what + ", no second net", NONE, net, x -> x.open(0, 1));
            }
        }
        says(15, "The k-th net with two pins or more that drive");
        due("two own ones", 0, PAIR.join(0, 0, NONE, 0).join(0, 0, NONE, 7), x -> x.doubled(0, 0));
        due("two of one instance", 0, PAIR.join(0, 0, 1, 1).join(0, 0, 1, 8), x -> x.doubled(0, 0));
        due("one in each of two nets", NONE, PAIR.join(0, 0, 1, 1).join(0, 1, 1, 8), x -> x.doubled(0, 0));
    }

    private static void noneAtAnyPlace(Recipe recipe, KthNet net) {
        for (int k : new int[] {0, 1, 127, 128, GREATEST}) {
            due("place " + k, NONE, recipe, x -> net.of(x, k));
        }
    }

    private static void each128AtItsPlace(Recipe recipe, KthNet net) {
        for (int k : new int[] {0, 1, 63, 126, 127}) {
            due("place " + k, k, recipe, x -> net.of(x, k));
        }
        for (int k : new int[] {128, 129, GREATEST}) {
            due("place " + k, NONE, recipe, x -> net.of(x, k));
        }
        for (int k : new int[] {LEAST, -1}) {
            refused("place " + k, INDEX, recipe, x -> net.of(x, k));
        }
    }

    private static void doubledOfNone() {
        says(15, "NONE if there are not so many");
        noneAtAnyPlace(new Recipe().modules(1), DOUBLED);
        noneAtAnyPlace(new Recipe().modules(1).nets(128, 0), DOUBLED);
        noneAtAnyPlace(PAIR, DOUBLED);
        noneAtAnyPlace(PAIR.join(0, 0, NONE, 0).join(0, 1, NONE, 8).join(0, 1, NONE, 9), DOUBLED);
    }

    private static void doubledOfAll() {
        says(15, "The k-th net (from 0) with two pins or more that drive; NONE if there are not so many");
        Recipe all = wide(false, true);
        for (int net = 0; net < 128; net++) {
            all = all.join(0, net, NONE, net).join(0, net, 0, net);
        }
        each128AtItsPlace(all, DOUBLED);
        due("none is open", NONE, all, x -> x.open(0, 0));
    }

    private static void doubledByPlaces() {
        says(15, "The k-th net (from 0) with two pins or more that drive; NONE if there are not so many");
        Recipe first = PAIR.join(0, 2, NONE, 0).join(0, 2, 0, 1);
        due("the first of one", 2, first, x -> x.doubled(0, 0));
        due("the second of one", NONE, first, x -> x.doubled(0, 1));
        Recipe second = first.join(0, 0, NONE, 1).join(0, 0, 1, 8);
        due("the first of two", 0, second, x -> x.doubled(0, 0));
        due("the second of two", 2, second, x -> x.doubled(0, 1));
        due("the third of two", NONE, second, x -> x.doubled(0, 2));
        due("the first when one came out", 2, second.part(0, NONE, 1), x -> x.doubled(0, 0));
        due("the greatest", NONE, second, x -> x.doubled(0, GREATEST));
        refused("the last before 0", INDEX, second, x -> x.doubled(0, -1));
        refused("the least", INDEX, second, x -> x.doubled(0, LEAST));
    }

    private static void openOfNone() {
        says(16, "NONE if there are not so many");
        noneAtAnyPlace(new Recipe().modules(1), OPEN);
        noneAtAnyPlace(new Recipe().modules(1).nets(128, 0), OPEN);
        noneAtAnyPlace(PAIR, OPEN);
        noneAtAnyPlace(PAIR.join(0, 0, NONE, 0).join(0, 1, NONE, 8).join(0, 1, 0, 8), OPEN);
    }

    private static void openOfAll() {
        says(16, "The k-th net with a pin and none that drives; NONE if there are not so many");
        Recipe all = wide(true, false);
        for (int net = 0; net < 128; net++) {
            all = net % 2 == 0 ? all.join(0, net, NONE, net) : all.join(0, net, 0, net);
        }
        each128AtItsPlace(all, OPEN);
        due("none is doubled", NONE, all, x -> x.doubled(0, 0));
    }

    private static void openByPlaces() {
        says(16, "The k-th net with a pin and none that drives; NONE if there are not so many");
        Recipe first = PAIR.join(0, 2, NONE, 8);
        due("the first of one", 2, first, x -> x.open(0, 0));
        due("the second of one", NONE, first, x -> x.open(0, 1));
        Recipe second = first.join(0, 0, 0, 9);
        due("the first of two", 0, second, x -> x.open(0, 0));
        due("the second of two", 2, second, x -> x.open(0, 1));
        due("the third of two", NONE, second, x -> x.open(0, 2));
        due("the first when its pin came out", 2, second.part(0, 0, 9), x -> x.open(0, 0));
        due("the first when it is driven", 2, second.join(0, 0, 0, 1), x -> x.open(0, 0));
        due("the greatest", NONE, second, x -> x.open(0, GREATEST));
        refused("the last before 0", INDEX, second, x -> x.open(0, -1));
        refused("the least", INDEX, second, x -> x.open(0, LEAST));
    }
}
