import java.util.IdentityHashMap;
import java.util.List;
import java.util.Map;

/** What tests of edges have in common: a sentence of the document, and what is due by it. */
class Checks {
    static final int NONE = DesignTrees.NONE;
    static final int LEAST = Integer.MIN_VALUE;
    static final int GREATEST = Integer.MAX_VALUE;

    static final String INDEX = "IndexOutOfBoundsException";
    static final String STATE = "IllegalStateException";
    static final String ARGUMENT = "IllegalArgumentException";
    static final String UNSUPPORTED = "UnsupportedOperationException";

    private static final Map<Recipe, List<String>> PICTURES = new IdentityHashMap<>();
    private static int wrong = 0;
    private static int checked = 0;
    private static String sentence = "";

    /** The sentence that the checks from here on are about. */
    static void says(int promise, String words) {
        sentence = "promise " + promise + " (" + words + ")";
    }

    static void due(String what, Object want, Recipe recipe, Recipe.Call call) {
        String got = Recipe.answer(recipe.made(), call);
        hold(what + " answered " + got + ", due is " + want, got.equals(String.valueOf(want)));
    }

    /** A call that is refused: what it answers or throws is due, and nothing is changed by it. */
    static void refused(String what, Object want, Recipe recipe, Recipe.Call call) {
        due(what, want, recipe, call);
        same(what + " changed something", pictureOf(recipe), Picture.of(recipe.tried(call)));
    }

    static void sameDesign(String what, Recipe one, Recipe other) {
        same(what, pictureOf(one), pictureOf(other));
    }

    static void sameModule(String what, Recipe recipe, int one, int other) {
        same(what, Picture.ofModule(recipe, one), Picture.ofModule(recipe, other));
    }

    static void end() {
        System.out.println(wrong == 0 ? checked + " checks hold" : wrong + " of " + checked + " do not hold");
        if (wrong != 0) {
            System.exit(1);
        }
    }

    private static List<String> pictureOf(Recipe recipe) {
        return PICTURES.computeIfAbsent(recipe, Picture::of);
    }

    private static void same(String what, List<String> one, List<String> other) {
        hold(what + firstDifference(one, other), one.equals(other));
    }

    private static String firstDifference(List<String> one, List<String> other) {
        int i = 0;
        while (i < one.size() && i < other.size() && one.get(i).equals(other.get(i))) {
            i++;
        }
        return " [" + lineAt(one, i) + "] [" + lineAt(other, i) + "]";
    }

    private static String lineAt(List<String> lines, int i) {
        return i < lines.size() ? lines.get(i) : "nothing more";
    }

    static void hold(String what, boolean holds) {
        checked++;
        if (!holds) {
            wrong++;
            System.out.println(sentence + ": " + what);
        }
    }
}
