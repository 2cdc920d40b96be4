import java.util.ArrayList;
import java.util.List;

/**
 * The edges that the document names, promise by promise, but for wrong numbers (NumbersTest),
 * refused calls (RefusedTest) and FAULTS (FaultTest, FollowTest).
 */
public final class EdgesTest {
    private static final Checker check = new Checker();
    private static final String TEXT = "Nap;N0b;N1cq;Ra:w1x2;R.p>b:x3!;RUc.q:y4z5;";
    private static final String NINE = "Na;N0a;N1a;N2a;N3a;N4a;N5a;N6a;N7a;";
    /** 120 letters, no blank among them: nine NODES, eight RULES. */
    private static final String FULL_TEXT = NINE + "Ra:w1x1!y1!z1!;Ra:w2x2!y2!z2!;Ra:w3x3!y3!z3!;Ra:w4x4!y4!z4!;"
        + "Ra:w5;Ra:w6;Ra:w7;Ra:w8!;";
    private static final int[] SOME_NUMBERS = {Integer.MIN_VALUE, -1, 0, 1, 2, 8, 9, Integer.MAX_VALUE};

    public static void main(String[] args) {
        nothingToldYet();
        lettersAtTheirEnds();
        textAtItsEnds();
        faultyTextGoesOn();
        emptyTextTellsAllAnew();
        tagOfItsOwn();
        undoneToTheEnd();
        undoneAndDoneAgain();
        beyondTheLastWinner();
        fromNoNode();
        hasItOrNever();
        sixAndNoneSeen();
        noneOrOneToAsk();
        imagesAtTheirEnds();
        nothingUndoneBehindBack();
        readAnew();
        mostOfEachCount();
        check.end();
    }

    // ---- promise 1

    private static void nothingToldYet() {
        empty("new", new StyleTree());
        empty("told by an empty text", check.told(""));
        empty("told by blanks", check.told("   "));
        StyleTree again = check.told(TEXT);
        again.page();
        empty("told anew by an empty text", again);
        for (Calls call : Calls.of(0, 0)) {
            for (int number : SOME_NUMBERS) {
                for (int other : SOME_NUMBERS) {
                    int[] numbers = {number, other, other};
                    boolean bad = call.answer(new StyleTree(), numbers) == -2;
                    check.due("new " + call.told(numbers), call.takes(numbers) ? 0 : 1, bad ? 1 : 0);
                }
            }
        }
    }

    private static void empty(String which, StyleTree x) {
        for (int what = 0; what <= 6; what++) {
            check.due(which + " count(" + what + ")", 0, x.count(what));
        }
        check.due(which + " clear", 0, x.clear());
        check.due(which + " page", 0, x.page());
        check.due(which + " undo", -3, x.undo());
        check.due(which + " forget", 0, x.forget());
        check.due(which + " unseen", 0, x.unseen());
        check.due(which + " ask", -9, x.ask());
        for (int image = 0; image < 2; image++) {
            check.due(which + " back", -3, x.back(image));
        }
        for (int image = 0; image < 2; image++) {
            check.due(which + " keep", 0, x.keep(image));
            check.due(which + " back to what was kept", 0, x.back(image));
        }
        check.due(which + " type", 1, x.type('N'));
    }

    // ---- promises 2 to 4

    private static void lettersAtTheirEnds() {
        for (int letter = 0; letter < 256; letter++) {
            check.due("type(" + letter + ")", 1, new StyleTree().type(letter));
        }
        int[] wrong = {-1, 256, 256 + 'N', (1 << 16) + 'N', 'N' - 256, Integer.MIN_VALUE, Integer.MAX_VALUE};
        StyleTree x = new StyleTree();
        for (int letter : wrong) {
            check.due("type(" + letter + ")", -2, x.type(letter));
            check.due("no letter came", 0, x.count(5));
        }
    }

    private static void textAtItsEnds() {
        check.due("as long as a text may be", 120, FULL_TEXT.length());
        StyleTree x = new StyleTree();
        for (int i = 0; i < 120; i++) {
            check.due("letter " + i, i + 1, x.type(FULL_TEXT.charAt(i)));
        }
        check.due("letter 121", -4, x.type('e'));
        check.due("the 120 are read", 17, x.page());
        check.due("w of 8", 8, x.value(8, 0));
        check.due("no letter is left", 0, x.count(5));
        Checker.type(x, FULL_TEXT);
        check.due("120 come again", 120, x.count(5));
        check.due("letter 121", -4, x.type(';'));
        check.due("clear, full", 120, x.clear());
        check.due("clear, empty", 0, x.clear());
        check.due("and from the first on again", 1, x.type('N'));
        check.due("what was cleared is not read", -11, x.page());
        String unended = FULL_TEXT.substring(0, 119);
        check.due("119 letters, no ;", -129, Checker.read(new StyleTree(), unended));
        check.due("120 letters, the last a blank", -130, Checker.read(new StyleTree(), unended + " "));
        check.due("120 letters, the last one wrong", -129, Checker.read(new StyleTree(), unended + "e"));
    }

    /** Where a text ends too early, the letters that it has stay, and the others may come. */
    private static void faultyTextGoesOn() {
        String want = Checker.state(check.told(TEXT));
        for (int cut = 1; cut < TEXT.length(); cut++) {
            if (TEXT.charAt(cut - 1) != ';') {
                StyleTree x = new StyleTree();
                check.due("ends at " + cut, -10 - cut, Checker.read(x, TEXT.substring(0, cut)));
                check.due("then the rest of it", 6, Checker.read(x, TEXT.substring(cut)));
                check.same("cut at " + cut, want, Checker.state(x));
            }
        }
    }

    private static void emptyTextTellsAllAnew() {
        for (String text : new String[] {"", " ", "     "}) {
            StyleTree x = Scene.of(TEXT);
            x.clear();
            check.due("no ITEM", 0, Checker.read(x, text));
            empty("behind [" + text + "]", x);
        }
    }

    // ---- promise 8

    private static void tagOfItsOwn() {
        StyleTree x = check.told("Na;N0b;N0c;N0d;");
        for (int n = 0; n < 4; n++) {
            check.due("as told", -3, x.tags(n, n));
        }
        check.due("none is known", 0, x.count(6));
        x.keep(0);
        check.due("0 was a", 0, x.tags(0, 3));
        check.due("it is d", -3, x.tags(0, 3));
        check.due("one is known", 1, x.count(6));
        check.due("undo", 0, x.undo());
        check.due("it is a", -3, x.tags(0, 0));
        check.due("it is not d", 0, x.tags(0, 3));
        check.due("back", 4, x.back(0));
        check.due("it is a again", -3, x.tags(0, 0));
        check.due("none is known again", 0, x.count(6));
    }

    // ---- promise 10

    /** Change number i is of one kind or another, and never refused. */
    private static void doChange(StyleTree x, int i) {
        switch (i % 3) {
            case 0 -> x.toggles(i % 2, i / 3 % 4);
            case 1 -> x.tags(i % 2, (x.node(i % 2, 1) + 1 + i % 2) % 4);
            default -> x.switches(i % 4 % 3);
        }
    }

    private static StyleTree afterFirst(int changes) {
        StyleTree x = check.told(TEXT);
        for (int i = 0; i < changes; i++) {
            doChange(x, i);
        }
        return x;
    }

    private static void undoneToTheEnd() {
        for (int changes = 0; changes <= 25; changes++) {
            StyleTree x = afterFirst(changes);
            int known = Math.min(changes, 10);
            check.due("known of " + changes, known, x.count(6));
            for (int left = known - 1; left >= 0; left--) {
                check.due("undo of " + changes, left, x.undo());
                check.due("as many are left", left, x.count(6));
            }
            check.due("none is left of " + changes, -3, x.undo());
            check.due("nor then", -3, x.undo());
            String want = Scene.look(afterFirst(changes - known));
            check.same("the older ones of " + changes + " stay", want, Scene.look(x));
        }
    }

    /** Rounds of changes and undos that go around the ten again and again, by a plain list. */
    private static void undoneAndDoneAgain() {
        StyleTree x = check.told(TEXT);
        List<String> looks = new ArrayList<>();
        int change = 0;
        for (int round = 0; round < 8; round++) {
            for (int i = 0; i < 3 + round % 3; i++) {
                looks.add(Scene.look(x));
                doChange(x, change++);
                if (looks.size() > 10) {
                    looks.remove(0);
                }
            }
            check.due("known in round " + round, looks.size(), x.count(6));
            for (int i = 0; i < 1 + round % 2; i++) {
                String want = looks.remove(looks.size() - 1);
                check.due("undo in round " + round, looks.size(), x.undo());
                check.same("undone in round " + round, want, Scene.look(x));
            }
        }
    }

    // ---- promise 12

    private static void beyondTheLastWinner() {
        int[] beyond = {8, 9, 31, 32, 33, 64, 1 << 16, Integer.MAX_VALUE - 1, Integer.MAX_VALUE};
        for (int rules = 0; rules <= 8; rules++) {
            StyleTree x = check.told("Na;" + "Ra:w1;".repeat(rules) + "Ra:x1;".repeat(rules == 8 ? 0 : 1));
            for (int k = 0; k < rules; k++) {
                check.due("winner " + k + " of " + rules, rules - 1 - k, x.winner(0, 0, k));
            }
            check.due("behind the last of " + rules, -9, x.winner(0, 0, rules));
            for (int k : beyond) {
                check.due("winner " + k + " of " + rules, -9, x.winner(0, 0, k));
            }
            check.due("below the first", -2, x.winner(0, 0, -1));
            check.due("far below", -2, x.winner(0, 0, Integer.MIN_VALUE));
        }
    }

    // ---- promise 13

    private static void fromNoNode() {
        StyleTree x = check.told("Na;N0b;N1c;Ra.p:w0x0y0z0;");
        for (int place = 0; place < 12; place++) {
            check.due("by no rule, place " + place, -9, x.source(place / 4, place % 4));
        }
        x.toggles(0, 0);
        for (int place = 0; place < 12; place++) {
            int due = place < 4 || place % 4 < 2 ? 0 : -9;
            check.due("a 0 by a rule, place " + place, due, x.source(place / 4, place % 4));
            check.due("it is 0, place " + place, 0, x.value(place / 4, place % 4));
        }
        x.switches(0);
        for (int place = 0; place < 12; place++) {
            check.due("by no rule that is on, place " + place, -9, x.source(place / 4, place % 4));
        }
    }

    // ---- promise 15

    private static void hasItOrNever() {
        StyleTree x = check.told("Na;N0b;Rb:w0y9;R.s:w9;");
        check.due("0 by no rule: it has it", -1, x.wanted(0, 0, 0));
        check.due("0 by a rule: it has it", -1, x.wanted(1, 0, 0));
        check.due("9 by a rule: it has it", -1, x.wanted(1, 2, 9));
        check.due("9 by s on 0", 3, x.wanted(0, 0, 9));
        check.due("9 by s on 1", 7, x.wanted(1, 0, 9));
        check.due("0 by no class, but the rule off", 100, x.wanted(1, 2, 0));
        for (int value = 1; value < 9; value++) {
            check.due("by no change", -9, x.wanted(1, 0, value));
        }
        check.due("by no change", -9, x.wanted(0, 3, 1));
        check.due("by two changes alone", -9, check.told("Na;R.p.q:w1;").wanted(0, 0, 1));
        StyleTree bare = check.told("Na;");
        check.due("no rules: it has 0", -1, bare.wanted(0, 3, 0));
        check.due("no rules: never 9", -9, bare.wanted(0, 3, 9));
    }

    // ---- promises 16 to 19

    private static void sixAndNoneSeen() {
        StyleTree x = check.told("Na;N0b;Ra:w9;Ra:x1;Rb:y2;");
        check.due("none seen, nothing to forget", 0, x.forget());
        check.due("none seen, all rules", 7, x.unseen());
        int[][] seen = {{0, 0, 9}, {1, 0, 9}, {0, 1, 1}, {1, 1, 1}, {0, 3, 0}, {1, 2, 0}};
        for (int round = 0; round < 2; round++) {
            for (int i = 0; i < 6; i++) {
                check.due("seen", i + 1, x.sees(seen[i][0], seen[i][1], seen[i][2]));
            }
            check.due("the sixth counts, and the first does", 4, x.unseen());
            check.due("a seventh", -4, x.sees(1, 2, 2));
            check.due("the seventh does not count", 4, x.unseen());
            check.due("six seen", 6, x.count(4));
            check.due("six to forget", 6, x.forget());
            check.due("none to forget", 0, x.forget());
            check.due("none seen", 0, x.count(4));
            check.due("all rules again", 7, x.unseen());
        }
        for (int i = 0; i < 6; i++) {
            x.forget();
            x.sees(0, 2, 1);
            check.due("what none of them brings", 0, x.unseen());
        }
        check.due("nodes, no rules", 0, check.told("Na;").unseen());
        check.due("rules, no nodes", 3, check.told("Ra:w1;Rb:w1;").unseen());
    }

    private static void noneOrOneToAsk() {
        StyleTree x = check.told("Na;Ra:w1;Ra:x1;");
        check.due("two can be", 0, x.ask());
        x.sees(0, 0, 1);
        check.due("one can be", 2, x.unseen());
        check.due("one: NONE", -9, x.ask());
        x.sees(0, 1, 1);
        check.due("none can be", 0, x.unseen());
        check.due("none: NONE", -9, x.ask());
        check.due("no rule: NONE", -9, check.told("Na;N0b;").ask());
        check.due("one rule: NONE", -9, check.told("Na;Ra:w1;").ask());
        check.due("no node: NONE", -9, check.told("Ra:w1;Ra:w2;").ask());
        String last = NINE.substring(0, 31) + "N7b;Rb:z1;Rb:z2;";
        check.due("the last place of all", 35, check.told(last).ask());
    }

    // ---- promises 20 and 21

    private static void imagesAtTheirEnds() {
        for (int kept = 0; kept < 4; kept++) {
            StyleTree x = check.told(NINE);
            for (int image = 0; image < 2; image++) {
                if ((kept >> image & 1) == 1) {
                    check.due("keep(" + image + ")", 9, x.keep(image));
                }
            }
            for (int image = 0; image < 2; image++) {
                check.due(kept + ": back(" + image + ")", (kept >> image & 1) == 1 ? 9 : -3, x.back(image));
            }
            check.due("an empty text", 0, x.page());
            check.due("both are gone", -6, x.back(0) + x.back(1));
        }
    }

    private static void nothingUndoneBehindBack() {
        for (int changes = 0; changes <= 12; changes += 4) {
            StyleTree x = check.told(TEXT);
            x.toggles(2, 3);
            x.keep(1);
            for (int i = 0; i < changes; i++) {
                doChange(x, i);
            }
            check.due("back", 3, x.back(1));
            check.due("none is known", 0, x.count(6));
            check.due("none may be undone", -3, x.undo());
            check.due("what was done ahead of keep() stays", 10, x.node(2, 2));
            x.switches(0);
            check.due("what is done then may be", 0, x.undo());
            check.due("and no more", -3, x.undo());
        }
    }

    // ---- part 3 of the terms: read anew

    /** Ten changes known, six seen, both images, RULES off: a text takes each of these away. */
    private static void readAnew() {
        for (String text : Scene.TEXTS) {
            StyleTree x = afterFirst(11);
            for (int i = 0; i < 6; i++) {
                x.sees(0, 0, i);
            }
            x.keep(0);
            x.keep(1);
            Checker.read(x, text);
            check.due("nothing can be undone", -3, x.undo());
            check.due("image 0 is gone", -3, x.back(0));
            check.due("image 1 is gone", -3, x.back(1));
            check.due("nothing is seen", 0, x.forget());
            check.same("as if told first: " + text, Checker.state(check.told(text)), Checker.state(x));
        }
    }

    // ---- promise 22

    private static void mostOfEachCount() {
        StyleTree x = check.told("Na;N0b;N1c;N2d;N3ap;N4bp;N5cp;N6dp;N7aq;"
            + "Ra:w1;Rb:w2;Rc:w3;Rd:w4;R.p:x5;R.q:y6;Ra:z7;Ra:w8;");
        check.due("nine nodes", 9, x.count(0));
        check.due("eight rules", 8, x.count(1));
        check.due("all on", 255, x.count(2));
        check.due("nine unlike styles", 9, x.count(3));
        for (int r = 0; r < 8; r++) {
            x.switches(r);
        }
        check.due("none on", 0, x.count(2));
        check.due("one style", 1, x.count(3));
        for (int i = 0; i < 7; i++) {
            x.sees(8, 3, 9);
        }
        check.due("six seen", 6, x.count(4));
        Checker.type(x, " ".repeat(121));
        check.due("120 letters", 120, x.count(5));
        x.tags(8, 3);
        x.tags(8, 2);
        check.due("ten known", 10, x.count(6));
        x.tags(8, 1);
        check.due("ten known still", 10, x.count(6));
    }
}
