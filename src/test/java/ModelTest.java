import java.util.Random;

/** All promises: runs of calls by a fixed seed, on the class and on the model, answer by answer. */
public final class ModelTest {
    private static final int RUNS = 400;
    private static final int CALLS = 512;
    private static final int TEXT_CALLS = 122;
    private static final String SIGNS = "NRUabcdpqrswxyz>/.:!;0123456789 e";

    private final Random random;
    private final Model model = new Model();
    private final StyleTree tree = new StyleTree();
    private final StringBuilder log = new StringBuilder();
    private int calls = 0;

    private ModelTest(long seed) {
        random = new Random(seed);
    }

    public static void main(String[] args) {
        int wrong = 0;
        for (int seed = 0; seed < RUNS; seed++) {
            ModelTest run = new ModelTest(seed);
            if (!run.passes()) {
                wrong++;
                System.out.println("seed " + seed + ":" + run.log);
            }
        }
        System.out.println(RUNS + " runs, " + wrong + " wrong");
        if (wrong != 0) {
            System.exit(1);
        }
    }

    private boolean passes() {
        while (calls < CALLS) {
            boolean roomForText = calls + TEXT_CALLS <= CALLS;
            boolean fine = calls == 0 || random.nextInt(90) == 0 && roomForText ? tellText() : oneCall();
            if (!fine) {
                return false;
            }
        }
        return true;
    }

    private boolean same(String call, int want, int got) {
        calls++;
        log.append(' ').append(call).append('=').append(got);
        if (want == got) {
            return true;
        }
        log.append(" but the model answers ").append(want);
        return false;
    }

    private boolean tellText() {
        StringBuilder text = new StringBuilder(makeText());
        if (random.nextInt(3) == 0 && text.length() > 0) {
            text.setCharAt(random.nextInt(text.length()), SIGNS.charAt(random.nextInt(SIGNS.length())));
        }
        if (random.nextInt(9) == 0) {
            text.setLength(random.nextInt(text.length() + 1));
        }
        for (char c : text.toString().toCharArray()) {
            if (!same("type(" + (int) c + ")", model.type(c), tree.type(c))) {
                return false;
            }
        }
        log.append(" [").append(text).append(']');
        return same("page()", model.page(), tree.page()) && same("clear()", model.clear(), tree.clear());
    }

    private String makeText() {
        StringBuilder text = new StringBuilder();
        int nodes = 0;
        int most = 1 + random.nextInt(10);
        for (int i = 0; i < 20 && text.length() < 110; i++) {
            if (nodes < most && random.nextInt(5) != 0) {
                text.append('N').append(nodes == 0 ? "" : String.valueOf(parentOf(nodes)));
                text.append(pick("aabbcd")).append(some("pqrs", 4)).append(';');
                nodes++;
            } else {
                text.append(makeRule());
            }
            if (random.nextInt(8) == 0) {
                text.append(' ');
            }
        }
        while (text.length() > 120) {
            text.setLength(text.lastIndexOf(";", text.length() - 2) + 1);
        }
        return text.toString();
    }

    private int parentOf(int nodes) {
        return random.nextBoolean() ? nodes - 1 : random.nextInt(nodes);
    }

    private String makeRule() {
        StringBuilder rule = new StringBuilder(random.nextInt(3) == 0 ? "RU" : "R");
        int compounds = 1 + random.nextInt(3);
        for (int k = 0; k < compounds; k++) {
            rule.append(k == 0 ? "" : pick(">/")).append(makeCompound());
        }
        rule.append(':');
        String properties = some("wxyz", 2);
        for (char p : (properties.isEmpty() ? pick("wxyz") : properties).toCharArray()) {
            rule.append(p).append(random.nextInt(10)).append(random.nextInt(4) == 0 ? "!" : "");
        }
        return rule.append(';').toString();
    }

    private String makeCompound() {
        StringBuilder compound = new StringBuilder(random.nextBoolean() ? pick("aabbcd") : "");
        for (char c : some("pqrs", 4).toCharArray()) {
            compound.append('.').append(c);
        }
        return compound.length() == 0 ? pick("abcd") : compound.toString();
    }

    private String pick(String letters) {
        return String.valueOf(letters.charAt(random.nextInt(letters.length())));
    }

    private String some(String letters, int oneOf) {
        StringBuilder all = new StringBuilder();
        for (char c : letters.toCharArray()) {
            if (random.nextInt(oneOf) == 0) {
                all.append(c);
            }
        }
        return all.toString();
    }

    /** A number below the bound, mostly; sometimes one that is beyond it. */
    private int number(int bound) {
        if (random.nextInt(40) != 0) {
            return bound < 1 ? 0 : random.nextInt(bound);
        }
        int[] wild = {-1, bound, bound + 1, 32, -32, Integer.MIN_VALUE, Integer.MAX_VALUE};
        return wild[random.nextInt(wild.length)];
    }

    private boolean oneCall() {
        int a = number(model.count(0));
        int r = number(model.count(1));
        int b = number(4);
        switch (random.nextInt(17)) {
            case 0: {
                int what = number(6);
                return same("node(" + a + ", " + what + ")", model.node(a, what), tree.node(a, what));
            }
            case 1: {
                int what = number(7);
                return same("rule(" + r + ", " + what + ")", model.rule(r, what), tree.rule(r, what));
            }
            case 2: return same("toggles(" + a + ", " + b + ")", model.toggles(a, b), tree.toggles(a, b));
            case 3: return same("tags(" + a + ", " + b + ")", model.tags(a, b), tree.tags(a, b));
            case 4: return same("switches(" + r + ")", model.switches(r), tree.switches(r));
            case 5: return same("undo()", model.undo(), tree.undo());
            case 6: return same("value(" + a + ", " + b + ")", model.value(a, b), tree.value(a, b));
            case 7: return same("source(" + a + ", " + b + ")", model.source(a, b), tree.source(a, b));
            case 8: {
                int k = number(4);
                return same("winner(" + a + ", " + b + ", " + k + ")", model.winner(a, b, k), tree.winner(a, b, k));
            }
            case 9:
            case 10: {
                int what = number(2);
                return same("change(" + a + ", " + b + ", " + what + ")",
                    model.change(a, b, what), tree.change(a, b, what));
            }
            default: return oneCallMore(a, b);
        }
    }

    private boolean oneCallMore(int a, int b) {
        int image = number(2);
        switch (random.nextInt(8)) {
            case 0: {
                int value = number(10);
                return same("wanted(" + a + ", " + b + ", " + value + ")",
                    model.wanted(a, b, value), tree.wanted(a, b, value));
            }
            case 1: {
                int value = random.nextInt(5) == 0 ? number(10) : Math.max(0, model.value(a, b));
                return same("sees(" + a + ", " + b + ", " + value + ")",
                    model.sees(a, b, value), tree.sees(a, b, value));
            }
            case 2: return random.nextInt(3) != 0 || same("forget()", model.forget(), tree.forget());
            case 3: return same("unseen()", model.unseen(), tree.unseen());
            case 4: return same("ask()", model.ask(), tree.ask());
            case 5: return same("keep(" + image + ")", model.keep(image), tree.keep(image));
            case 6: return same("back(" + image + ")", model.back(image), tree.back(image));
            default: {
                int what = number(7);
                return same("count(" + what + ")", model.count(what), tree.count(what));
            }
        }
    }
}
