/** Promises 1 to 4: a new object, type, clear, page (its faults stand in FaultTest). */
public final class TextTest {
    private static final Checker check = new Checker();

    public static void main(String[] args) {
        newObject();
        letters();
        clearing();
        reading();
        readingAnew();
        nothingIsLeftOfOlderTexts();
        refusedPageChangesNothing();
        check.end();
    }

    private static void newObject() {
        StyleTree x = new StyleTree();
        for (int what = 0; what <= 6; what++) {
            check.due("new count(" + what + ")", 0, x.count(what));
        }
        check.due("new node(0, 0)", -2, x.node(0, 0));
        check.due("new rule(0, 0)", -2, x.rule(0, 0));
        check.due("new toggles", -2, x.toggles(0, 0));
        check.due("new tags", -2, x.tags(0, 0));
        check.due("new switches", -2, x.switches(0));
        check.due("new undo", -3, x.undo());
        check.due("new sees", -2, x.sees(0, 0, 0));
        check.due("new forget", 0, x.forget());
        check.due("new unseen", 0, x.unseen());
        check.due("new ask", -9, x.ask());
        check.due("new back(0)", -3, x.back(0));
        check.due("new back(1)", -3, x.back(1));
        check.due("new clear", 0, x.clear());
        check.due("BAD", -2, StyleTree.BAD);
        check.due("STATE", -3, StyleTree.STATE);
        check.due("FULL", -4, StyleTree.FULL);
        check.due("NONE", -9, StyleTree.NONE);
    }

    private static void letters() {
        StyleTree x = new StyleTree();
        check.due("type(-1)", -2, x.type(-1));
        check.due("type(256)", -2, x.type(256));
        check.due("type(least)", -2, x.type(Integer.MIN_VALUE));
        check.due("type(most)", -2, x.type(Integer.MAX_VALUE));
        check.due("nothing came", 0, x.count(5));
        check.due("type(0)", 1, x.type(0));
        check.due("type(255)", 2, x.type(255));
        for (int i = 3; i <= 120; i++) {
            check.due("letter " + i, i, x.type(32));
        }
        check.due("letter 121", -4, x.type(32));
        check.due("BAD is ahead of FULL", -2, x.type(256));
        check.due("120 letters", 120, x.count(5));
    }

    private static void clearing() {
        StyleTree x = check.told("Na;Ra:w1;");
        x.type('N');
        x.type('e');
        String before = Checker.state(x);
        check.due("clear", 2, x.clear());
        check.due("clear again", 0, x.clear());
        x.type('N');
        x.type('e');
        check.same("clear changes the text alone", before, Checker.state(x));
        x.clear();
        check.due("type behind clear", 1, x.type('N'));
    }

    private static void reading() {
        StyleTree x = new StyleTree();
        check.due("no text", 0, x.page());
        check.due("blanks alone", 0, Checker.read(x, "    "));
        check.due("blanks are read away", 0, x.count(5));
        check.due("items in any order", 4, Checker.read(x, "Ra:w1;Na;RU.p:x2;N0b;"));
        check.due("nodes", 2, x.count(0));
        check.due("rules", 2, x.count(1));
        check.due("text is empty", 0, x.count(5));
        check.due("blanks", 3, Checker.read(x, "  N  d s  r q p ;N 0 a ; R U d . s / a > .p.q:w 0 ! z 9;  "));
        check.due("all classes", 15, x.node(0, 2));
        check.due("tag d", 3, x.node(0, 1));
        check.due("three compounds", 3, x.rule(0, 1));
        check.due("declared", 9, x.rule(0, 3));
        String full = "Na;N0a;N1a;N2a;N3a;N4a;N5a;N6a;N7a;"
            + "Ra:w1;Ra:w2;Ra:w3;Ra:w4;Ra:w5;Ra:w6;Ra:w7;Ra:w8!x0!y9z1;";
        check.due("nine nodes, eight rules", 17, Checker.read(x, full));
        check.due("nine nodes", 9, x.count(0));
        check.due("eight rules", 8, x.count(1));
        check.due("all on", 255, x.count(2));
        StringBuilder long120 = new StringBuilder("Na;");
        while (long120.length() < 119) {
            long120.append(' ');
        }
        check.due("120 letters", -130, Checker.read(x, long120 + "N"));
        x.clear();
        check.due("120 letters, blank last", 1, Checker.read(x, long120 + " "));
    }

    private static void readingAnew() {
        StyleTree x = check.told("Na;N0bp;Ra:w1;R.p:x2;");
        x.toggles(0, 1);
        x.tags(1, 3);
        x.switches(0);
        x.sees(0, 0, 1);
        x.keep(0);
        x.keep(1);
        check.due("read anew", 2, Checker.read(x, "Nc;R.q:y3;"));
        check.due("one node", 1, x.count(0));
        check.due("one rule", 1, x.count(1));
        check.due("rules are on", 1, x.count(2));
        check.due("classes as told", 0, x.node(0, 2));
        check.due("tag as told", 2, x.node(0, 1));
        check.due("nothing can be undone", 0, x.count(6));
        check.due("undo", -3, x.undo());
        check.due("nothing seen", 0, x.count(4));
        check.due("image 0 is gone", -3, x.back(0));
        check.due("image 1 is gone", -3, x.back(1));
        check.due("rule(0, 3)", 4, x.rule(0, 3));
        check.due("rule(0, 4)", 0, x.rule(0, 4));
        check.due("an old rule is gone", -2, x.rule(1, 0));
        check.due("an old node is gone", -2, x.node(1, 0));
        check.due("empty text", 0, x.page());
        check.due("no nodes", 0, x.count(0));
        check.due("no rules", 0, x.count(1));
        check.due("none on", 0, x.count(2));
    }

    private static void nothingIsLeftOfOlderTexts() {
        String heavy = "Napqrs;N0dpqrs;RUa.p.q>b.r/c:w1!x2!y3!z4!;RU.s>.r:w9!z9;";
        String faulty = "Ndp;N0cq;RUd.s/d/d:w5!x5!y5!z5!;R";
        StyleTree x = new StyleTree();
        for (int round = 0; round < 2; round++) {
            check.due("heavy", 4, Checker.read(x, heavy));
            check.due("faulty", -10 - faulty.length(), Checker.read(x, faulty));
            x.clear();
            check.due("light", 3, Checker.read(x, "Nb;Rb:x7;R.p:y8;"));
            int[][] want = {{0, 1, 1, 2, 0, 1, 1}, {0, 1, 10, 4, 0, 1, 0}};
            for (int r = 0; r < 2; r++) {
                for (int what = 0; what < 7; what++) {
                    check.due("light rule(" + r + ", " + what + ")", want[r][what], x.rule(r, what));
                }
            }
            check.due("light classes", 0, x.node(0, 2));
            check.due("light w", 0, x.value(0, 0));
            check.due("light x", 7, x.value(0, 1));
            check.due("heavy again", 4, Checker.read(x, heavy));
            check.due("lone", 1, Checker.read(x, "Nc;"));
            check.due("lone rules", 0, x.node(0, 3));
            check.due("none on", 0, x.count(2));
        }
    }

    private static void refusedPageChangesNothing() {
        StyleTree x = check.told("Na;N0bp;Ra:w1;R.p:x2;");
        x.toggles(0, 1);
        x.switches(1);
        x.sees(0, 0, 1);
        x.keep(1);
        for (char c : "Ndq;N0cr;RUd:z7!;N9".toCharArray()) {
            x.type(c);
        }
        String before = Checker.state(x);
        check.due("page with a fault", -28, x.page());
        check.due("page with a fault again", -28, x.page());
        check.same("nothing changes", before, Checker.state(x));
        check.due("the text stays", 19, x.clear());
        check.due("undo goes on", 1, x.undo());
        check.due("the image stays", 2, x.back(1));
        check.due("as the image has it", 1, x.count(2));
    }
}
