/** A tree in which something of every kind has happened, and all that can be seen of such a tree. */
final class Scene {
    static final String NINE_AND_EIGHT = "Na;N0b;N1c;N2d;N0a;N4bp;N5cq;N6dr;N7as;"
        + "Ra:w1;R.p:x2;Rb/d:y3;RUc:z4;Ra:w5;R.q:x6;Rd:y7;R.r:z8;";
    /** Nothing at all, nodes alone, rules alone, one of each, some of each, the most of each. */
    static final String[] TEXTS = {
        "", "Na;N0bp;N1c;", "Ra:w1;R.p:x2;", "Nap;Ra:w1;", "Nap;N0b;N1cq;Ra:w1x2;R.p>b:x3!;RUc.q:y4z5;",
        NINE_AND_EIGHT
    };

    private Scene() {
    }

    /** A class toggled and an image kept, then a tag and a rule changed; seen and typed something. */
    static StyleTree of(String text) {
        StyleTree x = new StyleTree();
        Checker.read(x, text);
        int nodes = x.count(0);
        int rules = x.count(1);
        if (nodes > 0) {
            x.toggles(0, 3);
            x.sees(nodes - 1, 1, 0);
        }
        x.keep(0);
        if (nodes > 0) {
            x.tags(nodes - 1, (x.node(nodes - 1, 1) + 1) % 4);
        }
        if (rules > 0) {
            x.switches(rules - 1);
        }
        Checker.type(x, "Ndq;");
        return x;
    }

    /** The questions' answers, then what undo(), the images and THE TEXT bring: it uses the tree up. */
    static String allOf(StyleTree x) {
        StringBuilder all = new StringBuilder(Checker.state(x));
        int left = 0;
        for (int i = 0; i <= 10 && left >= 0; i++) {
            left = x.undo();
            all.append(" undo ").append(left).append(look(x));
        }
        for (int image = 0; image < 2; image++) {
            all.append(" back ").append(x.back(image)).append(look(x));
        }
        all.append(" page ").append(x.page()).append(look(x));
        return all.append(" clear ").append(x.clear()).toString();
    }

    /** What an image keeps. */
    static String look(StyleTree x) {
        StringBuilder all = new StringBuilder(":").append(x.count(2));
        int nodes = x.count(0);
        for (int n = 0; n < nodes; n++) {
            all.append(' ').append(x.node(n, 1)).append(',').append(x.node(n, 2));
        }
        return all.toString();
    }
}
