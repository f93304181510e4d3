import java.util.ArrayList;
import java.util.List;

/** All that can be asked of a design, and what the next change of each kind would answer there. */
final class Picture {
    private static final int NONE = DesignTrees.NONE;
    /** Far above every number of the document: a faulty answer must not keep a test from its end. */
    private static final int BOUND = 600;

    private final Recipe recipe;
    private final List<String> lines = new ArrayList<>();
    private DesignTrees x;
    private int callsLeft = 0;

    private Picture(Recipe recipe) {
        this.recipe = recipe;
    }

    static List<String> of(Recipe recipe) {
        Picture picture = new Picture(recipe);
        int modules = picture.number("modules", x -> x.modules());
        picture.ask("kinds", x -> x.kinds());
        for (int module = 0; module < modules; module++) {
            picture.lines.add("module " + module);
            picture.drawModule(module);
            picture.drawPairs(module, modules);
            picture.drawNextChanges(module, modules);
        }
        picture.tryOut("module", x -> x.module());
        return picture.lines;
    }

    /** One module alone, without its number: what is told of a copy is what is told of the other. */
    static List<String> ofModule(Recipe recipe, int module) {
        Picture picture = new Picture(recipe);
        picture.drawModule(module);
        return picture.lines;
    }

    private String ask(String what, Recipe.Call call) {
        if (callsLeft == 0) {
            x = recipe.made();
            callsLeft = recipe.callsLeft();
        }
        callsLeft--;
        String answer = Recipe.answer(x, call);
        lines.add(what + ": " + answer);
        return answer;
    }

    private int number(String what, Recipe.Call call) {
        String answer = ask(what, call);
        return answer.matches("-?[0-9]{1,9}") ? Math.min(Integer.parseInt(answer), BOUND) : NONE;
    }

    /** A change is made on an object of its own, so that it is not seen in what is asked next. */
    private void tryOut(String what, Recipe.Call change) {
        lines.add("next " + what + ": " + Recipe.answer(recipe.made(), change));
    }

    private void drawModule(int module) {
        int[] counts = new int[6];
        for (int what = 0; what < counts.length; what++) {
            int w = what;
            counts[what] = number("count " + what, x -> x.count(module, w));
        }
        drawPins(module, NONE, counts[3]);
        for (int instance = 0; instance < counts[1]; instance++) {
            drawInstance(module, instance);
        }
        for (int net = 0; net < counts[2]; net++) {
            drawNet(module, net);
        }
        drawFaults(module);
    }

    private void drawInstance(int module, int instance) {
        int of = number("module of " + instance, x -> x.moduleOf(module, instance));
        drawPins(module, instance, number("its pins", x -> x.count(of, 3)));
        int at = 0;
        for (int i = 0; at != NONE && i < BOUND; i++) {
            int place = i;
            at = number("way " + i, x -> x.path(module, instance, place));
        }
    }

    private void drawPins(int module, int instance, int pins) {
        for (int p = 0; p < pins; p++) {
            int pin = p;
            ask("net of " + instance + " " + pin, x -> x.netOf(module, instance, pin));
        }
    }

    private void drawNet(int module, int net) {
        int pins = number("pins of net " + net, x -> x.pins(module, net));
        for (int i = 0; i < pins; i++) {
            int k = i;
            for (int w = 0; w < 3; w++) {
                int what = w;
                ask("pin " + k + " " + what, x -> x.pin(module, net, k, what));
            }
        }
    }

    private void drawFaults(int module) {
        int doubled = 0;
        int open = 0;
        for (int i = 0; (doubled != NONE || open != NONE) && i < BOUND; i++) {
            int k = i;
            doubled = number("doubled " + k, x -> x.doubled(module, k));
            open = number("open " + k, x -> x.open(module, k));
        }
    }

    private void drawPairs(int module, int modules) {
        for (int i = 0; i < modules; i++) {
            int other = i;
            ask("shared with " + other, x -> x.shared(module, other));
            ask("alike " + other, x -> x.alike(module, other));
        }
    }

    private void drawNextChanges(int module, int modules) {
        tryOut("port", x -> x.port(module, 1, true));
        tryOut("net", x -> x.net(module));
        tryOut("copy", x -> x.copy(module));
        tryOut("flat", x -> x.flat(module));
        for (int i = 0; i < modules; i++) {
            int of = i;
            tryOut("instance of " + of, x -> x.instance(module, of));
        }
    }
}
