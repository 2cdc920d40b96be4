/**
 * "Refused, and nothing changes, the first of these: BAD, STATE, FULL": the calls that are refused
 * with STATE or FULL, those for which BAD would hold too, and the page that has a FAULT. (Those that
 * are BAD by their numbers alone stand in NumbersTest.)
 */
public final class RefusedTest {
    private static final Checker check = new Checker();
    private static final String TEXT = "Nap;N0b;N1cq;Ra:w1x2;R.p>b:x3!;RUc.q:y4z5;";

    private interface Call {
        int on(StyleTree x);
    }

    public static void main(String[] args) {
        tagThatItIs();
        imageThatWasNotKept();
        nothingToBeUndone();
        fullOfSeen();
        fullOfLetters();
        faults();
        check.end();
    }

    /** The call is made on one of two like trees, and all that can be seen of them stays the same. */
    private static void refused(String told, int due, Call before, Call call) {
        StyleTree x = Scene.of(TEXT);
        StyleTree untouched = Scene.of(TEXT);
        before.on(x);
        before.on(untouched);
        check.due(told, due, call.on(x));
        check.same(told + " changes nothing", Scene.allOf(untouched), Scene.allOf(x));
    }

    private static int nothing(StyleTree x) {
        return 0;
    }

    private static void tagThatItIs() {
        refused("tag of 0 as told", -3, RefusedTest::nothing, x -> x.tags(0, 0));
        refused("tag of 1 as told", -3, RefusedTest::nothing, x -> x.tags(1, 1));
        refused("tag of 2 as it was put", -3, RefusedTest::nothing, x -> x.tags(2, 3));
        refused("BAD, not STATE, for a tag that is none", -2, RefusedTest::nothing, x -> x.tags(0, 4));
        refused("BAD, not STATE, for a node that is none", -2, RefusedTest::nothing, x -> x.tags(3, 0));
    }

    private static void imageThatWasNotKept() {
        refused("back(1), and 0 alone was kept", -3, RefusedTest::nothing, x -> x.back(1));
        Call anew = x -> {
            x.clear();
            return Checker.read(x, TEXT);
        };
        refused("back(0), read anew", -3, anew, x -> x.back(0));
        refused("BAD, not STATE, below", -2, anew, x -> x.back(-1));
        refused("BAD, not STATE, above", -2, anew, x -> x.back(2));
        refused("BAD, not STATE, with one kept", -2, RefusedTest::nothing, x -> x.back(2));
    }

    private static void nothingToBeUndone() {
        Call undoAll = x -> x.undo() + x.undo() + x.undo();
        refused("undo, and all is undone", -3, undoAll, StyleTree::undo);
        refused("undo behind back()", -3, x -> x.back(0), StyleTree::undo);
    }

    private static int sixSeen(StyleTree x) {
        int seen = x.count(4);
        for (int i = seen; i < 6; i++) {
            seen = x.sees(0, 0, 1);
        }
        return seen;
    }

    private static void fullOfSeen() {
        check.due("the sixth is fine", 6, sixSeen(Scene.of(TEXT)));
        refused("a seventh", -4, RefusedTest::sixSeen, x -> x.sees(1, 1, 1));
        refused("a seventh that was seen already", -4, RefusedTest::sixSeen, x -> x.sees(0, 0, 1));
        refused("BAD, not FULL, node", -2, RefusedTest::sixSeen, x -> x.sees(3, 0, 0));
        refused("BAD, not FULL, property", -2, RefusedTest::sixSeen, x -> x.sees(0, 4, 0));
        refused("BAD, not FULL, value", -2, RefusedTest::sixSeen, x -> x.sees(0, 0, 10));
        refused("BAD, not FULL, value", -2, RefusedTest::sixSeen, x -> x.sees(0, 0, -1));
    }

    private static int manyLetters(StyleTree x) {
        int letters = x.count(5);
        for (int i = letters; i < 120; i++) {
            letters = x.type(i == 119 ? ';' : i == 118 ? 'c' : i == 117 ? '0' : i == 116 ? 'N' : ' ');
        }
        return letters;
    }

    private static void fullOfLetters() {
        check.due("letter 120 is fine", 120, manyLetters(Scene.of(TEXT)));
        refused("letter 121", -4, RefusedTest::manyLetters, x -> x.type('e'));
        refused("letter 121, a blank", -4, RefusedTest::manyLetters, x -> x.type(' '));
        refused("letter 121, 0", -4, RefusedTest::manyLetters, x -> x.type(0));
        refused("letter 121, 255", -4, RefusedTest::manyLetters, x -> x.type(255));
        refused("BAD, not FULL, below", -2, RefusedTest::manyLetters, x -> x.type(-1));
        refused("BAD, not FULL, above", -2, RefusedTest::manyLetters, x -> x.type(256));
    }

    /** One of each kind of FAULT that the document names: THE TEXT stays, and all else does. */
    private static void faults() {
        fault(0, ";");
        fault(35, "Nd;N0d;N0d;N0d;N0d;N0d;N0d;N0d;N0d;N0d;");
        fault(48, "Rd:z9;Rd:z9;Rd:z9;Rd:z9;Rd:z9;Rd:z9;Rd:z9;Rd:z9;Rd:z9;");
        fault(4, "Nd;N1d;Rd:z9;");
        fault(3, "Ndss;");
        fault(9, "Nd;RUd.s.s:z9;");
        fault(9, "Nd;Rd>d/d>d:z9;");
        fault(8, "Nd;Rd:z9z9;");
        fault(7, "Nd;Rd:z10;");
        fault(7, "Nd;Rd:z09;");
        fault(4, "Nd; e");
        fault(3, "Nd;" + (char) 255);
        fault(9, "Nd;Rd:z9!");
        fault(9, "Nd;RUd:z9");
        fault(120, "Nd;" + " ".repeat(116) + "N");
    }

    private static void fault(int place, String text) {
        Call typed = x -> {
            int had = x.clear();
            Checker.type(x, text);
            return had;
        };
        refused(text, -10 - place, typed, StyleTree::page);
        refused(text + " and again", -10 - place, x -> typed.on(x) + x.page(), StyleTree::page);
    }
}
