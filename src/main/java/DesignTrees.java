import java.util.Arrays;

/** A design as modules in modules; ../shared/DOC.md says what each call promises. */
public final class DesignTrees {
    /** A module's own pins; there is none. */
    public static final int NONE = -1;

    private static final int MODULE_LIMIT = 24;
    private static final int PORT_LIMIT = 16;
    private static final int WIDTH_LIMIT = 8;
    private static final int PIN_LIMIT = PORT_LIMIT * WIDTH_LIMIT;
    private static final int INSTANCE_LIMIT = 64;
    private static final int NET_LIMIT = 128;
    private static final int LAID_NET_LIMIT = 3000;
    private static final int LEAF_LIMIT = 1000000;

    private final Shell[] shells = new Shell[MODULE_LIMIT];
    private int shellCount = 0;

    // Rows that calls work with are made once: what each call makes anew is never given back.
    private final Order order = new Order();
    private final Layout layout = new Layout();
    private final int[] measure = new int[MODULE_LIMIT];
    private final int[] pinTally = new int[NET_LIMIT];
    private final int[] driverTally = new int[NET_LIMIT];

    public DesignTrees() {
    }

    public int module() throws IllegalStateException {
        requireRoomForModule();
        return addShell(new Inside()).number;
    }

    public int port(int module, int width, boolean out)
            throws IndexOutOfBoundsException, IllegalStateException, IllegalArgumentException {
        Shell shell = shellAt(module);
        if (shell.portCount == PORT_LIMIT || shell.placed) {
            throw new IllegalStateException();
        }
        if (width < 1 || width > WIDTH_LIMIT) {
            throw new IllegalArgumentException();
        }
        return shell.addPort(width, out);
    }

    public int instance(int module, int of) throws IndexOutOfBoundsException, IllegalStateException {
        Shell shell = shellAt(module);
        Shell below = shellAt(of);
        if (shell.inside.placementCount == INSTANCE_LIMIT) {
            throw new IllegalStateException();
        }
        if (isWithin(shell, below)) {
            return NONE;
        }
        Inside inside = insideToChange(shell);
        int[] way = {inside.placementCount};
        int[] nets = new int[below.pinCount];
        Arrays.fill(nets, NONE);
        below.placed = true;
        return inside.addPlacement(new Placement(below, way, nets));
    }

    public int net(int module) throws IndexOutOfBoundsException, IllegalStateException {
        Shell shell = shellAt(module);
        if (shell.inside.netCount == NET_LIMIT) {
            throw new IllegalStateException();
        }
        return insideToChange(shell).addNet();
    }

    public boolean join(int module, int net, int instance, int pin) throws IndexOutOfBoundsException {
        Shell shell = shellAt(module);
        requireNet(shell, net);
        return moveTo(net, shell, instance, pin);
    }

    public boolean part(int module, int instance, int pin) throws IndexOutOfBoundsException {
        return moveTo(NONE, shellAt(module), instance, pin);
    }

    public int netOf(int module, int instance, int pin) throws IndexOutOfBoundsException {
        return netAt(shellAt(module), instance, pin);
    }

    public int pins(int module, int net) throws IndexOutOfBoundsException {
        Shell shell = shellAt(module);
        requireNet(shell, net);
        int found = 0;
        for (int instance = NONE; instance < shell.inside.placementCount; instance++) {
            for (int netOfPin : shell.inside.netsOf(instance)) {
                if (netOfPin == net) {
                    found++;
                }
            }
        }
        return found;
    }

    public int pin(int module, int net, int k, int what) throws IndexOutOfBoundsException {
        Shell shell = shellAt(module);
        requireNet(shell, net);
        requireWithin(what, 3);
        int place = placeOf(shell.inside, net, k);
        if (place == NONE) {
            throw new IndexOutOfBoundsException();
        }
        int instance = place / PIN_LIMIT - 1;
        int pin = place % PIN_LIMIT;
        if (what == 0) {
            return instance;
        }
        if (what == 1) {
            return pin;
        }
        return isDriver(shell, instance, pin) ? 1 : 0;
    }

    public int copy(int module) throws IndexOutOfBoundsException, IllegalStateException {
        Shell from = shellAt(module);
        requireRoomForModule();
        from.inside.sharers++;
        Shell made = addShell(from.inside);
        made.takePorts(from);
        return made.number;
    }

    public boolean shared(int a, int b) throws IndexOutOfBoundsException {
        return shellAt(a).inside == shellAt(b).inside;
    }

    public int flat(int module)
            throws IndexOutOfBoundsException, IllegalStateException, UnsupportedOperationException {
        Shell top = shellAt(module);
        requireRoomForModule();
        if (leavesIn(top) > INSTANCE_LIMIT || netsOfOccurrences(top) > LAID_NET_LIMIT) {
            throw new UnsupportedOperationException();
        }
        layout.restart();
        layOut(top, layout.addNets(top.inside.netCount), layout, 0);
        int netCount = layout.numberNets();
        if (netCount > NET_LIMIT) {
            throw new UnsupportedOperationException();
        }
        Shell made = addShell(layout.insideFor(top, netCount));
        made.takePorts(top);
        return made.number;
    }

    public int path(int module, int instance, int i) throws IndexOutOfBoundsException {
        int[] way = placementAt(shellAt(module), instance).way;
        if (i < 0) {
            throw new IndexOutOfBoundsException();
        }
        return i < way.length ? way[i] : NONE;
    }

    public int doubled(int module, int k) throws IndexOutOfBoundsException {
        return tallied(shellAt(module), k, true);
    }

    public int open(int module, int k) throws IndexOutOfBoundsException {
        return tallied(shellAt(module), k, false);
    }

    public boolean alike(int a, int b) throws IndexOutOfBoundsException {
        Shell first = shellAt(a);
        Shell second = shellAt(b);
        order.restart();
        putBehindParts(first, order, 0);
        putBehindParts(second, order, 0);
        sortIntoKinds();
        return measure[first.number] == measure[second.number];
    }

    public int count(int module, int what) throws IndexOutOfBoundsException {
        Shell shell = shellAt(module);
        switch (what) {
            case 0:
                return shell.portCount;
            case 1:
                return shell.inside.placementCount;
            case 2:
                return shell.inside.netCount;
            case 3:
                return shell.pinCount;
            case 4:
                return layersBelow(shell);
            case 5:
                return leavesIn(shell);
            default:
                throw new IndexOutOfBoundsException();
        }
    }

    public int moduleOf(int module, int instance) throws IndexOutOfBoundsException {
        return placementAt(shellAt(module), instance).of.number;
    }

    public int modules() {
        return shellCount;
    }

    public int kinds() {
        order.restart();
        for (int i = 0; i < shellCount; i++) {
            putBehindParts(shells[i], order, 0);
        }
        return sortIntoKinds();
    }

    public void clear() {
        shellCount = 0;
    }

    private static void requireWithin(int number, int limit) {
        if (number < 0 || number >= limit) {
            throw new IndexOutOfBoundsException();
        }
    }

    private static void requireNet(Shell shell, int net) {
        requireWithin(net, shell.inside.netCount);
    }

    private void requireRoomForModule() {
        if (shellCount == MODULE_LIMIT) {
            throw new IllegalStateException();
        }
    }

    private Shell shellAt(int number) {
        requireWithin(number, shellCount);
        return shells[number];
    }

    private static Placement placementAt(Shell shell, int instance) {
        requireWithin(instance, shell.inside.placementCount);
        return shell.inside.placements[instance];
    }

    private Shell addShell(Inside inside) {
        Shell made = new Shell(shellCount, inside);
        shells[shellCount] = made;
        shellCount++;
        return made;
    }

    /** A shared inside is left to its other sharers, so that they do not see the change. */
    private static Inside insideToChange(Shell shell) {
        if (shell.inside.sharers > 1) {
            shell.inside.sharers--;
            shell.inside = shell.inside.twin();
        }
        return shell.inside;
    }

    private static int netAt(Shell shell, int instance, int pin) {
        int pinCount = instance == NONE ? shell.pinCount : placementAt(shell, instance).nets.length;
        requireWithin(pin, pinCount);
        return shell.inside.netsOf(instance)[pin];
    }

    private static boolean moveTo(int net, Shell shell, int instance, int pin) {
        if (netAt(shell, instance, pin) == net) {
            return false;
        }
        insideToChange(shell).netsOf(instance)[pin] = net;
        return true;
    }

    /** The k-th pin's instance and pin in one number, since a call answers but one. */
    private static int placeOf(Inside inside, int net, int k) {
        int left = k;
        for (int instance = NONE; instance < inside.placementCount; instance++) {
            int[] nets = inside.netsOf(instance);
            for (int pin = 0; pin < nets.length; pin++) {
                if (nets[pin] == net) {
                    if (left == 0) {
                        return (instance + 1) * PIN_LIMIT + pin;
                    }
                    left--;
                }
            }
        }
        return NONE;
    }

    private static boolean isDriver(Shell shell, int instance, int pin) {
        return instance == NONE
                ? !shell.pinIsOut[pin]
                : shell.inside.placements[instance].of.pinIsOut[pin];
    }

    private void tally(Shell shell) {
        Arrays.fill(pinTally, 0);
        Arrays.fill(driverTally, 0);
        for (int instance = NONE; instance < shell.inside.placementCount; instance++) {
            int[] nets = shell.inside.netsOf(instance);
            for (int pin = 0; pin < nets.length; pin++) {
                if (nets[pin] != NONE) {
                    pinTally[nets[pin]]++;
                    driverTally[nets[pin]] += isDriver(shell, instance, pin) ? 1 : 0;
                }
            }
        }
    }

    private int tallied(Shell shell, int k, boolean twiceDriven) {
        if (k < 0) {
            throw new IndexOutOfBoundsException();
        }
        tally(shell);
        int left = k;
        for (int net = 0; net < shell.inside.netCount; net++) {
            boolean undriven = pinTally[net] > 0 && driverTally[net] == 0;
            if (twiceDriven ? driverTally[net] >= 2 : undriven) {
                if (left == 0) {
                    return net;
                }
                left--;
            }
        }
        return NONE;
    }

    /** One visit for each module keeps this short where ways down are beyond counting. */
    private static void putBehindParts(Shell top, Order order, int depth) {
        if (depth >= MODULE_LIMIT || order.has[top.number]) {
            return;
        }
        order.has[top.number] = true;
        for (int i = 0; i < top.inside.placementCount; i++) {
            putBehindParts(top.inside.placements[i].of, order, depth + 1);
        }
        order.add(top);
    }

    private void orderFrom(Shell top) {
        order.restart();
        putBehindParts(top, order, 0);
    }

    private boolean isWithin(Shell shell, Shell top) {
        orderFrom(top);
        return order.has[shell.number];
    }

    private int layersBelow(Shell top) {
        orderFrom(top);
        for (int i = 0; i < order.size; i++) {
            Inside inside = order.row[i].inside;
            int most = 0;
            for (int j = 0; j < inside.placementCount; j++) {
                most = Math.max(most, 1 + measure[inside.placements[j].of.number]);
            }
            measure[order.row[i].number] = most;
        }
        return measure[top.number];
    }

    private int leavesIn(Shell top) {
        orderFrom(top);
        for (int i = 0; i < order.size; i++) {
            Inside inside = order.row[i].inside;
            int leaves = inside.isLeaf() ? 1 : 0;
            for (int j = 0; j < inside.placementCount; j++) {
                leaves += measure[inside.placements[j].of.number];
            }
            measure[order.row[i].number] = Math.min(leaves, LEAF_LIMIT);
        }
        return measure[top.number];
    }

    /** Cut off just above the limit, as the true number may not fit an int. */
    private int netsOfOccurrences(Shell top) {
        orderFrom(top);
        for (int i = 0; i < order.size; i++) {
            Inside inside = order.row[i].inside;
            int nets = inside.netCount;
            for (int j = 0; j < inside.placementCount; j++) {
                Shell below = inside.placements[j].of;
                nets += below.inside.isLeaf() ? 0 : measure[below.number];
            }
            measure[order.row[i].number] = Math.min(nets, LAID_NET_LIMIT + 1);
        }
        return measure[top.number];
    }

    private static void layOut(Shell top, int firstNet, Layout layout, int depth) {
        if (depth >= MODULE_LIMIT) {
            return;
        }
        for (int i = 0; i < top.inside.placementCount; i++) {
            Placement placement = top.inside.placements[i];
            Inside below = placement.of.inside;
            layout.way[depth] = i;
            if (below.isLeaf()) {
                layout.addLeaf(placement, firstNet, depth + 1);
            } else {
                int firstBelow = layout.addNets(below.netCount);
                layout.uniteOver(placement, firstNet, firstBelow);
                layOut(placement.of, firstBelow, layout, depth + 1);
            }
        }
    }

    /** Marks each ordered module with the number of the first one alike: how many were first. */
    private int sortIntoKinds() {
        int found = 0;
        for (int i = 0; i < order.size; i++) {
            Shell shell = order.row[i];
            Shell first = firstAlike(i);
            measure[shell.number] = first.number;
            if (first == shell) {
                found++;
            }
        }
        return found;
    }

    private Shell firstAlike(int place) {
        Shell shell = order.row[place];
        for (int i = 0; i < place; i++) {
            Shell other = order.row[i];
            if (measure[other.number] == other.number && isSame(shell, other)) {
                return other;
            }
        }
        return shell;
    }

    private boolean isSame(Shell a, Shell b) {
        return a.hasPortsOf(b) && (a.inside == b.inside || isSameInside(a.inside, b.inside));
    }

    private boolean isSameInside(Inside a, Inside b) {
        if (a.placementCount != b.placementCount || a.netCount != b.netCount) {
            return false;
        }
        if (!isSameRow(a.ownNets, b.ownNets)) {
            return false;
        }
        for (int i = 0; i < a.placementCount; i++) {
            Placement one = a.placements[i];
            Placement other = b.placements[i];
            if (measure[one.of.number] != measure[other.of.number] || !isSameRow(one.nets, other.nets)) {
                return false;
            }
        }
        return true;
    }

    private static boolean isSameRow(int[] a, int[] b) {
        if (a.length != b.length) {
            return false;
        }
        for (int i = 0; i < a.length; i++) {
            if (a[i] != b[i]) {
                return false;
            }
        }
        return true;
    }

    /** What is a module's own even while its inside is shared. */
    private static final class Shell {
        final int number;
        final int[] widths = new int[PORT_LIMIT];
        final boolean[] pinIsOut = new boolean[PIN_LIMIT];
        int portCount = 0;
        int pinCount = 0;
        boolean placed = false;
        Inside inside;

        Shell(int number, Inside inside) {
            this.number = number;
            this.inside = inside;
        }

        int addPort(int width, boolean out) {
            for (int bit = 0; bit < width; bit++) {
                pinIsOut[pinCount + bit] = out;
            }
            widths[portCount] = width;
            pinCount += width;
            portCount++;
            return portCount - 1;
        }

        void takePorts(Shell from) {
            System.arraycopy(from.widths, 0, widths, 0, PORT_LIMIT);
            System.arraycopy(from.pinIsOut, 0, pinIsOut, 0, PIN_LIMIT);
            portCount = from.portCount;
            pinCount = from.pinCount;
        }

        /** Widths behind the last port are all 0, so whole rows can be held against each other. */
        boolean hasPortsOf(Shell other) {
            if (portCount != other.portCount || !isSameRow(widths, other.widths)) {
                return false;
            }
            for (int pin = 0; pin < pinCount; pin++) {
                if (pinIsOut[pin] != other.pinIsOut[pin]) {
                    return false;
                }
            }
            return true;
        }
    }

    /** Has room for every own pin there may be, as its sharers may get ports that others lack. */
    private static final class Inside {
        final int[] ownNets = new int[PIN_LIMIT];
        final Placement[] placements = new Placement[INSTANCE_LIMIT];
        int placementCount = 0;
        int netCount = 0;
        int sharers = 1;

        Inside() {
            Arrays.fill(ownNets, NONE);
        }

        boolean isLeaf() {
            return placementCount == 0;
        }

        int[] netsOf(int instance) {
            return instance == NONE ? ownNets : placements[instance].nets;
        }

        int addNet() {
            netCount++;
            return netCount - 1;
        }

        int addPlacement(Placement placement) {
            placements[placementCount] = placement;
            placementCount++;
            return placementCount - 1;
        }

        Inside twin() {
            Inside made = new Inside();
            System.arraycopy(ownNets, 0, made.ownNets, 0, PIN_LIMIT);
            for (int i = 0; i < placementCount; i++) {
                Placement from = placements[i];
                made.addPlacement(new Placement(from.of, from.way, from.nets.clone()));
            }
            made.netCount = netCount;
            return made;
        }
    }

    /** An instance: its module's ports can't change any more, so its row of nets keeps its length. */
    private static final class Placement {
        final Shell of;
        final int[] way;
        final int[] nets;

        Placement(Shell of, int[] way, int[] nets) {
            this.of = of;
            this.way = way;
            this.nets = nets;
        }
    }

    /** Modules, each behind all that are in it. */
    private static final class Order {
        final Shell[] row = new Shell[MODULE_LIMIT];
        final boolean[] has = new boolean[MODULE_LIMIT];
        int size = 0;

        void restart() {
            size = 0;
            for (int i = 0; i < MODULE_LIMIT; i++) {
                has[i] = false;
            }
        }

        void add(Shell shell) {
            row[size] = shell;
            size++;
        }
    }

    /** What is gathered on the way down before it is known whether a flat module can be made. */
    private static final class Layout {
        final int[] nets = new int[LAID_NET_LIMIT];
        final int[] way = new int[MODULE_LIMIT];
        final Placement[] leaves = new Placement[INSTANCE_LIMIT];
        final int[] leafFirstNets = new int[INSTANCE_LIMIT];
        final int[][] leafWays = new int[INSTANCE_LIMIT][];
        int netCount = 0;
        int leafCount = 0;

        void restart() {
            netCount = 0;
            leafCount = 0;
        }

        int addNets(int more) {
            int first = netCount;
            for (int i = 0; i < more; i++) {
                nets[netCount] = netCount;
                netCount++;
            }
            return first;
        }

        void addLeaf(Placement leaf, int firstNet, int wayLength) {
            leaves[leafCount] = leaf;
            leafFirstNets[leafCount] = firstNet;
            leafWays[leafCount] = Arrays.copyOf(way, wayLength);
            leafCount++;
        }

        void uniteOver(Placement placement, int firstNet, int firstBelow) {
            int[] below = placement.of.inside.ownNets;
            for (int pin = 0; pin < placement.nets.length; pin++) {
                if (placement.nets[pin] != NONE && below[pin] != NONE) {
                    unite(firstNet + placement.nets[pin], firstBelow + below[pin]);
                }
            }
        }

        /** Each net points to one before it or to itself: the first one of all stands for them. */
        private void unite(int a, int b) {
            int firstOfA = firstOf(a);
            int firstOfB = firstOf(b);
            nets[Math.max(firstOfA, firstOfB)] = Math.min(firstOfA, firstOfB);
        }

        private int firstOf(int net) {
            int first = net;
            for (int step = 0; step < LAID_NET_LIMIT && nets[first] != first; step++) {
                nets[first] = nets[nets[first]];
                first = nets[first];
            }
            return first;
        }

        /** Pointers go back only, so going forward each one meets a net that has its number. */
        int numberNets() {
            int numbers = 0;
            for (int net = 0; net < netCount; net++) {
                int before = nets[net];
                if (before == net) {
                    nets[net] = numbers;
                    numbers++;
                } else {
                    nets[net] = nets[before];
                }
            }
            return numbers;
        }

        Inside insideFor(Shell top, int flatNetCount) {
            Inside made = new Inside();
            made.netCount = flatNetCount;
            renumber(top.inside.ownNets, 0, made.ownNets);
            for (int i = 0; i < leafCount; i++) {
                int[] row = new int[leaves[i].nets.length];
                renumber(leaves[i].nets, leafFirstNets[i], row);
                made.addPlacement(new Placement(leaves[i].of, leafWays[i], row));
            }
            return made;
        }

        private void renumber(int[] from, int firstNet, int[] to) {
            for (int pin = 0; pin < from.length; pin++) {
                to[pin] = from[pin] == NONE ? NONE : nets[firstNet + from[pin]];
            }
        }
    }
}
