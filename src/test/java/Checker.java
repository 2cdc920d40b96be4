/** Compares answers with those that are due, and makes trees from texts. */
final class Checker {
    private int wrong = 0;
    private int checked = 0;

    void due(String call, long want, long got) {
        checked++;
        if (got != want) {
            wrong++;
            System.out.println(call + " answered " + got + ", due is " + want);
        }
    }

    static void type(StyleTree tree, String text) {
        for (int i = 0; i < text.length(); i++) {
            tree.type(text.charAt(i));
        }
    }

    /** Types a text into a tree and has it read. */
    static int read(StyleTree tree, String text) {
        type(tree, text);
        return tree.page();
    }

    /** A new tree that a text has told, which must have no fault. */
    StyleTree told(String text) {
        StyleTree tree = new StyleTree();
        int items = read(tree, text);
        checked++;
        if (items < 0) {
            wrong++;
            System.out.println("the text " + text + " was refused with " + items);
        }
        return tree;
    }

    /**
     * The answers of all questions about the nodes and rules that there are, so that two states can
     * be compared. No question about others: an object is good for 512 calls.
     */
    static String state(StyleTree tree) {
        StringBuilder all = new StringBuilder();
        for (int what = 0; what <= 6; what++) {
            all.append(tree.count(what)).append(' ');
        }
        int nodes = tree.count(0);
        for (int n = 0; n < nodes; n++) {
            for (int what = 0; what <= 5; what++) {
                all.append(tree.node(n, what)).append(' ');
            }
            for (int p = 0; p < 4; p++) {
                all.append(tree.value(n, p)).append(' ').append(tree.source(n, p)).append(' ');
                all.append(tree.winner(n, p, 0)).append(' ').append(tree.winner(n, p, 1)).append(' ');
            }
        }
        int rules = tree.count(1);
        for (int r = 0; r < rules; r++) {
            for (int what = 0; what <= 6; what++) {
                all.append(tree.rule(r, what)).append(' ');
            }
        }
        return all.append(tree.unseen()).append(' ').append(tree.ask()).toString();
    }

    void same(String what, String want, String got) {
        checked++;
        if (!want.equals(got)) {
            wrong++;
            System.out.println(what + ":\n  was  " + want + "\n  then " + got);
        }
    }

    void end() {
        System.out.println(checked + " checked, " + wrong + " wrong");
        if (wrong != 0) {
            System.exit(1);
        }
    }
}
