import java.util.ArrayList;
import java.util.Arrays;
import java.util.HashMap;
import java.util.HashSet;
import java.util.List;
import java.util.Map;
import java.util.Random;
import java.util.Set;
import java.util.TreeMap;

/** Long runs of chosen calls, each answer held against a slow model that was written from the document alone. */
public final class ModelTest {
    private static final int RUNS = 4000;
    private static final int CALLS = 512;
    private static final int NONE = -1;

    public static void main(String[] args) {
        int wrong = 0;
        Map<String, Integer> seen = new TreeMap<>();
        for (int seed = 0; seed < RUNS && wrong < 5; seed++) {
            wrong += new Run(seed, seen).isAsDue() ? 0 : 1;
        }
        wrong += neverSeen(seen);
        System.out.println(wrong == 0 ? "all runs are as due" : wrong + " faults");
        if (wrong != 0) {
            System.exit(1);
        }
    }

    /** Runs that never come to an edge would pass without saying anything of it. */
    private static int neverSeen(Map<String, Integer> seen) {
        String[] edges = {
            "flat UnsupportedOperationException", "flat IllegalStateException", "flat answer",
            "copy IllegalStateException", "port IllegalArgumentException", "port IllegalStateException",
            "instance none", "net IllegalStateException", "doubled answer", "open answer", "doubled none",
            "open none", "shared true", "shared false", "alike true", "alike false", "path none", "path answer",
            "join true", "join false", "part true", "part false", "instance IllegalStateException"};
        int missing = 0;
        for (String edge : edges) {
            if (!seen.containsKey(edge)) {
                missing++;
                System.out.println("no run came to: " + edge);
            }
        }
        return missing;
    }

    private static final class Run {
        private final Random random;
        private final DesignTrees real = new DesignTrees();
        private final Model model = new Model();
        private final List<String> told = new ArrayList<>();
        private final Map<String, Integer> seen;
        private final int seed;
        private final boolean manyNets;
        private final boolean manyInstances;
        private final int queries;
        private final int beginning;

        Run(int seed, Map<String, Integer> seen) {
            this.seed = seed;
            this.seen = seen;
            random = new Random(seed);
            manyNets = seed % 7 == 0;
            manyInstances = seed % 5 == 0;
            queries = 10 + random.nextInt(60);
            beginning = 20 + random.nextInt(60);
        }

        boolean isAsDue() {
            for (int i = 0; i < CALLS; i++) {
                String name = i < beginning ? chooseBeginning() : chooseName();
                int[] arguments = chooseArguments(name);
                String want = plain(answer(() -> model.call(name, arguments)));
                String got = answer(() -> call(name, arguments));
                told.add(name + Arrays.toString(arguments) + " -> " + got);
                note(name, want);
                if (!want.equals(got)) {
                    System.out.println("run " + seed + ", due is " + want + " at the last of");
                    told.subList(Math.max(0, told.size() - 60), told.size()).forEach(System.out::println);
                    return false;
                }
            }
            return true;
        }

        /** The model's lists throw a kind of their own, the class must not. */
        private String plain(String answer) {
            return answer.equals("ArrayIndexOutOfBoundsException") ? "IndexOutOfBoundsException" : answer;
        }

        private void note(String name, String answer) {
            String kind = answer.equals("-1") ? "none" : Character.isDigit(answer.charAt(0)) ? "answer" : answer;
            seen.merge(name + " " + kind, 1, Integer::sum);
        }

        /** Ports come first, as there are none of them any more once a module has an instance. */
        private String chooseBeginning() {
            if (model.modules.size() < 3 || random.nextInt(6) == 0) {
                return "module";
            }
            return random.nextInt(3) == 0 ? "net" : "port";
        }

        private String chooseName() {
            if (random.nextInt(100) < queries) {
                return pick("netOf", "pins", "pin", "pin", "shared", "path", "path", "doubled", "open", "alike",
                        "count", "moduleOf", "modules", "kinds");
            }
            if (random.nextInt(400) == 0) {
                return "clear";
            }
            if (manyNets && random.nextInt(3) > 0) {
                return "net";
            }
            if (manyInstances && random.nextInt(2) == 0) {
                return "instance";
            }
            return pick("module", "port", "instance", "instance", "instance", "net", "net", "join", "join", "join",
                    "join", "join", "join", "join", "join", "part", "copy", "flat");
        }

        private String pick(String... names) {
            String name = names[random.nextInt(names.length)];
            boolean rare = name.equals("module") || name.equals("copy") || name.equals("flat");
            return rare && random.nextInt(3) > 0 ? "join" : name;
        }

        private int[] chooseArguments(String name) {
            int module = chooseModule();
            int instance = module < 0 || module >= model.modules.size()
                    ? 0 : near(model.modules.get(module).inside.instances.size(), random.nextInt(3) == 0);
            switch (name) {
                case "port":
                    return new int[] {module, random.nextInt(12) == 0 ? random.nextInt(12) - 1 : 1 + random.nextInt(3),
                        random.nextInt(2)};
                case "instance":
                    return new int[] {manyInstances ? near(Math.min(2, model.modules.size()), false) : module,
                        chooseModule()};
                case "join":
                    return new int[] {module, chooseNet(module), instance, choosePin(module, instance)};
                case "part":
                case "netOf":
                    return new int[] {module, instance, choosePin(module, instance)};
                case "pins":
                    return new int[] {module, chooseNet(module)};
                case "pin":
                    return new int[] {module, chooseNet(module), near(3, false), near(3, false)};
                case "path":
                    return new int[] {module, instance, near(4, false)};
                case "doubled":
                case "open":
                    return new int[] {module, near(3, false)};
                case "count":
                    return new int[] {module, near(6, false)};
                case "shared":
                case "alike":
                    return new int[] {module, chooseModule()};
                case "moduleOf":
                    return new int[] {module, instance};
                case "net":
                    return new int[] {manyNets ? near(Math.min(2, model.modules.size()), false) : module};
                case "copy":
                case "flat":
                    return new int[] {module};
                default:
                    return new int[0];
            }
        }

        /** A number below the limit most times, one beyond the edges at some. */
        private int near(int limit, boolean orNone) {
            if (orNone) {
                return NONE;
            }
            if (limit == 0 || random.nextInt(40) == 0) {
                return random.nextInt(2) == 0 ? limit : -1 - random.nextInt(2);
            }
            return random.nextInt(limit);
        }

        private int chooseModule() {
            return near(model.modules.size(), false);
        }

        private int chooseNet(int module) {
            boolean there = module >= 0 && module < model.modules.size();
            return near(there ? Math.min(6, model.modules.get(module).inside.nets) : 1, false);
        }

        private int choosePin(int module, int instance) {
            boolean there = module >= 0 && module < model.modules.size();
            if (!there) {
                return 0;
            }
            Model.Mod mod = model.modules.get(module);
            boolean known = instance >= 0 && instance < mod.inside.instances.size();
            return near(instance == NONE ? mod.pins() : known ? mod.inside.instances.get(instance).of.pins() : 1, false);
        }

        private Object call(String name, int[] a) {
            switch (name) {
                case "module": return real.module();
                case "port": return real.port(a[0], a[1], a[2] == 1);
                case "instance": return real.instance(a[0], a[1]);
                case "net": return real.net(a[0]);
                case "join": return real.join(a[0], a[1], a[2], a[3]);
                case "part": return real.part(a[0], a[1], a[2]);
                case "netOf": return real.netOf(a[0], a[1], a[2]);
                case "pins": return real.pins(a[0], a[1]);
                case "pin": return real.pin(a[0], a[1], a[2], a[3]);
                case "copy": return real.copy(a[0]);
                case "shared": return real.shared(a[0], a[1]);
                case "flat": return real.flat(a[0]);
                case "path": return real.path(a[0], a[1], a[2]);
                case "doubled": return real.doubled(a[0], a[1]);
                case "open": return real.open(a[0], a[1]);
                case "alike": return real.alike(a[0], a[1]);
                case "count": return real.count(a[0], a[1]);
                case "moduleOf": return real.moduleOf(a[0], a[1]);
                case "modules": return real.modules();
                case "kinds": return real.kinds();
                default:
                    real.clear();
                    return "nothing";
            }
        }
    }

    private interface Call {
        Object answer();
    }

    private static String answer(Call call) {
        try {
            return String.valueOf(call.answer());
        } catch (RuntimeException e) {
            return e.getClass().getSimpleName();
        }
    }

    /** Nets are sets of pins here, insides are copied at once, and what is one is found by walking. */
    private static final class Model {
        record Port(int width, boolean out) { }

        record Instance(Mod of, List<Integer> way) { }

        record Pin(int instance, int pin) { }

        static final class Inside {
            List<Instance> instances = new ArrayList<>();
            Map<Pin, Integer> netOf = new HashMap<>();
            int nets = 0;
            Object group = new Object();
        }

        static final class Mod {
            List<Port> ports = new ArrayList<>();
            Inside inside = new Inside();

            int pins() {
                return ports.stream().mapToInt(Port::width).sum();
            }

            boolean isOut(int pin) {
                List<Boolean> bits = new ArrayList<>();
                for (Port port : ports) {
                    for (int bit = 0; bit < port.width(); bit++) {
                        bits.add(port.out());
                    }
                }
                return bits.get(pin);
            }

            boolean isLeaf() {
                return inside.instances.isEmpty();
            }
        }

        /** A net of an occurrence, the occurrence told by its way. */
        record LaidNet(List<Integer> occurrence, int net) { }

        final List<Mod> modules = new ArrayList<>();

        Object call(String name, int[] a) {
            switch (name) {
                case "module": return add(new Mod());
                case "port": return port(at(a[0]), a[1], a[2] == 1);
                case "instance": return instance(at(a[0]), at(a[1]));
                case "net": return net(at(a[0]));
                case "join": return join(at(a[0]), a[1], new Pin(a[2], a[3]));
                case "part": return part(at(a[0]), new Pin(a[1], a[2]));
                case "netOf": return at(a[0]).inside.netOf.getOrDefault(known(at(a[0]), new Pin(a[1], a[2])), NONE);
                case "pins": return pinsIn(at(a[0]), a[1]).size();
                case "pin": return pin(at(a[0]), pinsIn(at(a[0]), a[1]).get(a[2]), a[3]);
                case "copy": return add(copyOf(at(a[0])));
                case "shared": return at(a[0]).inside.group == at(a[1]).inside.group;
                case "flat": return flat(at(a[0]));
                case "path": return path(at(a[0]).inside.instances.get(a[1]).way(), a[2]);
                case "doubled": return kth(at(a[0]), a[1], true);
                case "open": return kth(at(a[0]), a[1], false);
                case "alike": return alike(at(a[0]), at(a[1]), new HashMap<>());
                case "count": return count(at(a[0]), a[1]);
                case "moduleOf": return modules.indexOf(at(a[0]).inside.instances.get(a[1]).of());
                case "modules": return modules.size();
                case "kinds": return kinds();
                default:
                    modules.clear();
                    return "nothing";
            }
        }

        Mod at(int module) {
            return modules.get(module);
        }

        int add(Mod mod) {
            if (modules.size() >= 24) {
                throw new IllegalStateException();
            }
            modules.add(mod);
            return modules.size() - 1;
        }

        int port(Mod mod, int width, boolean out) {
            boolean placed = modules.stream()
                    .anyMatch(m -> m.inside.instances.stream().anyMatch(i -> i.of() == mod));
            if (placed || mod.ports.size() >= 16) {
                throw new IllegalStateException();
            }
            if (width < 1 || width > 8) {
                throw new IllegalArgumentException();
            }
            mod.ports.add(new Port(width, out));
            return mod.ports.size() - 1;
        }

        void below(Mod mod, Set<Mod> found) {
            if (found.add(mod)) {
                mod.inside.instances.forEach(i -> below(i.of(), found));
            }
        }

        int instance(Mod mod, Mod of) {
            if (mod.inside.instances.size() >= 64) {
                throw new IllegalStateException();
            }
            Set<Mod> found = new HashSet<>();
            below(of, found);
            if (found.contains(mod)) {
                return NONE;
            }
            mod.inside.group = new Object();
            mod.inside.instances.add(new Instance(of, List.of(mod.inside.instances.size())));
            return mod.inside.instances.size() - 1;
        }

        int net(Mod mod) {
            if (mod.inside.nets >= 128) {
                throw new IllegalStateException();
            }
            mod.inside.group = new Object();
            return mod.inside.nets++;
        }

        Pin known(Mod mod, Pin pin) {
            int pins = pin.instance() == NONE ? mod.pins() : mod.inside.instances.get(pin.instance()).of().pins();
            if (pin.pin() < 0 || pin.pin() >= pins) {
                throw new IndexOutOfBoundsException();
            }
            return pin;
        }

        boolean join(Mod mod, int net, Pin pin) {
            known(mod, pin);
            if (net < 0 || net >= mod.inside.nets) {
                throw new IndexOutOfBoundsException();
            }
            Integer before = mod.inside.netOf.put(pin, net);
            if (before != null && before == net) {
                return false;
            }
            mod.inside.group = new Object();
            return true;
        }

        boolean part(Mod mod, Pin pin) {
            if (mod.inside.netOf.remove(known(mod, pin)) == null) {
                return false;
            }
            mod.inside.group = new Object();
            return true;
        }

        List<Pin> pinsIn(Mod mod, int net) {
            if (net < 0 || net >= mod.inside.nets) {
                throw new IndexOutOfBoundsException();
            }
            List<Pin> found = new ArrayList<>();
            mod.inside.netOf.forEach((pin, of) -> {
                if (of == net) {
                    found.add(pin);
                }
            });
            found.sort((p, q) -> p.instance() != q.instance()
                    ? Integer.compare(p.instance(), q.instance()) : Integer.compare(p.pin(), q.pin()));
            return found;
        }

        boolean drives(Mod mod, Pin pin) {
            return pin.instance() == NONE
                    ? !mod.isOut(pin.pin()) : mod.inside.instances.get(pin.instance()).of().isOut(pin.pin());
        }

        int pin(Mod mod, Pin pin, int what) {
            return List.of(pin.instance(), pin.pin(), drives(mod, pin) ? 1 : 0).get(what);
        }

        Mod copyOf(Mod mod) {
            Mod made = new Mod();
            made.ports.addAll(mod.ports);
            made.inside.instances.addAll(mod.inside.instances);
            made.inside.netOf.putAll(mod.inside.netOf);
            made.inside.nets = mod.inside.nets;
            made.inside.group = mod.inside.group;
            return made;
        }

        int path(List<Integer> way, int i) {
            if (i < 0) {
                throw new IndexOutOfBoundsException();
            }
            return i < way.size() ? way.get(i) : NONE;
        }

        int kth(Mod mod, int k, boolean doubled) {
            if (k < 0) {
                throw new IndexOutOfBoundsException();
            }
            List<Integer> found = new ArrayList<>();
            for (int net = 0; net < mod.inside.nets; net++) {
                List<Pin> pins = pinsIn(mod, net);
                long driving = pins.stream().filter(p -> drives(mod, p)).count();
                if (doubled ? driving >= 2 : driving == 0 && !pins.isEmpty()) {
                    found.add(net);
                }
            }
            return k < found.size() ? found.get(k) : NONE;
        }

        boolean alike(Mod a, Mod b, Map<List<Mod>, Boolean> known) {
            List<Mod> pair = List.of(a, b);
            if (!known.containsKey(pair)) {
                known.put(pair, compare(a, b, known));
            }
            return known.get(pair);
        }

        boolean compare(Mod a, Mod b, Map<List<Mod>, Boolean> known) {
            boolean same = a.ports.equals(b.ports) && a.inside.nets == b.inside.nets
                    && a.inside.instances.size() == b.inside.instances.size()
                    && a.inside.netOf.equals(b.inside.netOf);
            for (int i = 0; same && i < a.inside.instances.size(); i++) {
                same = alike(a.inside.instances.get(i).of(), b.inside.instances.get(i).of(), known);
            }
            return same;
        }

        int kinds() {
            List<Mod> kinds = new ArrayList<>();
            Map<List<Mod>, Boolean> known = new HashMap<>();
            for (Mod mod : modules) {
                if (kinds.stream().noneMatch(k -> alike(k, mod, known))) {
                    kinds.add(mod);
                }
            }
            return kinds.size();
        }

        int layers(Mod mod, Map<Mod, Integer> known) {
            if (!known.containsKey(mod)) {
                int most = 0;
                for (Instance instance : mod.inside.instances) {
                    most = Math.max(most, 1 + layers(instance.of(), known));
                }
                known.put(mod, most);
            }
            return known.get(mod);
        }

        double leaves(Mod mod, Map<Mod, Double> known) {
            if (!known.containsKey(mod)) {
                double sum = mod.isLeaf() ? 1 : 0;
                for (Instance instance : mod.inside.instances) {
                    sum += leaves(instance.of(), known);
                }
                known.put(mod, sum);
            }
            return known.get(mod);
        }

        int count(Mod mod, int what) {
            return List.of(mod.ports.size(), mod.inside.instances.size(), mod.inside.nets, mod.pins(),
                    layers(mod, new HashMap<>()), (int) Math.min(1000000, leaves(mod, new HashMap<>()))).get(what);
        }

        int flat(Mod top) {
            if (modules.size() >= 24) {
                throw new IllegalStateException();
            }
            if (leaves(top, new HashMap<>()) > 64) {
                throw new UnsupportedOperationException();
            }
            Flattener flattener = new Flattener();
            flattener.visit(top, List.of());
            return add(flattener.made(top));
        }

        static final class Flattener {
            final List<LaidNet> nets = new ArrayList<>();
            final Map<LaidNet, Set<LaidNet>> beside = new HashMap<>();
            final Mod flat = new Mod();
            final Map<Pin, LaidNet> pins = new HashMap<>();

            void visit(Mod mod, List<Integer> way) {
                for (int net = 0; net < mod.inside.nets; net++) {
                    nets.add(new LaidNet(way, net));
                    beside.put(new LaidNet(way, net), new HashSet<>());
                }
                for (int i = 0; i < mod.inside.instances.size(); i++) {
                    List<Integer> next = new ArrayList<>(way);
                    next.add(i);
                    Mod of = mod.inside.instances.get(i).of();
                    if (of.isLeaf()) {
                        addLeaf(mod, way, i, next);
                    } else {
                        visit(of, next);
                        joinOver(mod, way, i, next);
                    }
                }
            }

            void addLeaf(Mod mod, List<Integer> way, int instance, List<Integer> next) {
                mod.inside.netOf.forEach((pin, net) -> {
                    if (pin.instance() == instance) {
                        pins.put(new Pin(flat.inside.instances.size(), pin.pin()), new LaidNet(way, net));
                    }
                });
                flat.inside.instances.add(new Instance(mod.inside.instances.get(instance).of(), next));
            }

            void joinOver(Mod mod, List<Integer> way, int instance, List<Integer> next) {
                Mod of = mod.inside.instances.get(instance).of();
                mod.inside.netOf.forEach((pin, net) -> {
                    Integer inner = of.inside.netOf.get(new Pin(NONE, pin.pin()));
                    if (pin.instance() == instance && inner != null) {
                        beside.get(new LaidNet(way, net)).add(new LaidNet(next, inner));
                        beside.get(new LaidNet(next, inner)).add(new LaidNet(way, net));
                    }
                });
            }

            Mod made(Mod top) {
                Map<LaidNet, Integer> numbers = new HashMap<>();
                int count = 0;
                for (LaidNet net : nets) {
                    if (!numbers.containsKey(net)) {
                        spread(net, count++, numbers);
                    }
                }
                if (nets.size() > 3000 || count > 128) {
                    throw new UnsupportedOperationException();
                }
                flat.ports.addAll(top.ports);
                flat.inside.nets = count;
                top.inside.netOf.forEach((pin, net) -> {
                    if (pin.instance() == NONE) {
                        pins.put(pin, new LaidNet(List.of(), net));
                    }
                });
                pins.forEach((pin, net) -> flat.inside.netOf.put(pin, numbers.get(net)));
                return flat;
            }

            void spread(LaidNet from, int number, Map<LaidNet, Integer> numbers) {
                List<LaidNet> waiting = new ArrayList<>(List.of(from));
                while (!waiting.isEmpty()) {
                    LaidNet net = waiting.remove(waiting.size() - 1);
                    if (numbers.put(net, number) == null) {
                        waiting.addAll(beside.get(net));
                    }
                }
            }
        }
    }
}
