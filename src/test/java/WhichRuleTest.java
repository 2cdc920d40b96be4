/** Promises 16 to 19: sees, forget, unseen, ask. */
public final class WhichRuleTest {
    private static final Checker check = new Checker();

    public static void main(String[] args) {
        seeing();
        suspects();
        asThingsAreNow();
        asking();
        nothingToAsk();
        wrongNumbers();
        check.end();
    }

    private static void seeing() {
        StyleTree x = check.told("Na;Ra:w1;");
        for (int i = 1; i <= 6; i++) {
            check.due("seen", i, x.sees(0, 0, 9));
        }
        check.due("a seventh", -4, x.sees(0, 0, 9));
        check.due("BAD is ahead of FULL", -2, x.sees(1, 0, 9));
        check.due("seen", 6, x.count(4));
        check.due("forget", 6, x.forget());
        check.due("forget again", 0, x.forget());
        check.due("seen", 0, x.count(4));
        check.due("seen anew", 1, x.sees(0, 3, 0));
    }

    private static void suspects() {
        StyleTree x = check.told("Nap;N0b;Ra:w1;R.p:w2;Rb:x3;Rb:y4;");
        check.due("all can be", 15, x.unseen());
        x.sees(1, 0, 2);
        check.due("all but 1", 13, x.unseen());
        x.sees(1, 1, 3);
        check.due("0 or 3", 9, x.unseen());
        x.sees(1, 2, 4);
        check.due("0 is left", 1, x.unseen());
        x.sees(0, 0, 1);
        check.due("none", 0, x.unseen());
        x.forget();
        check.due("all again", 15, x.unseen());
        x.sees(1, 0, 1);
        check.due("what shows without 1", 2, x.unseen());
        check.due("on as it was", 15, x.count(2));
    }

    private static void asThingsAreNow() {
        StyleTree x = check.told("Na;Ra:w1;Ra:x2;Ra:y3;");
        x.sees(0, 0, 0);
        check.due("0 is off", 1, x.unseen());
        x.switches(0);
        check.due("1 or 2, as 0 is off now", 6, x.unseen());
        x.forget();
        x.sees(0, 0, 1);
        check.due("0 would be on", 1, x.unseen());
        x.undo();
        check.due("1 or 2", 6, x.unseen());
        x.tags(0, 1);
        check.due("none", 0, x.unseen());
        x.keep(0);
        x.back(0);
        check.due("seen stays behind back()", 1, x.count(4));
        x.undo();
        check.due("and behind undo()", 1, x.count(4));
    }

    private static void asking() {
        StyleTree x = check.told("Na;N0b;N1c;Ra:w1;Rb:w2;Rb:x3;Rc:y4;Rc:y5;");
        // Place 8, w of 2: 2, 1 (rule 1 off). Place 10, y of 2: 5, 4 (rule 4 off).
        check.due("the first of several with two values", 0, x.ask());
        x.sees(0, 0, 1);
        check.due("w of 1", 4, x.ask());
        x.sees(1, 0, 2);
        check.due("x of 1", 5, x.ask());
        x.sees(1, 1, 3);
        check.due("y of 2", 10, x.ask());
        x.sees(2, 2, 4);
        check.due("one is left", 16, x.unseen());
        check.due("nothing to ask", -9, x.ask());
        StyleTree three = check.told("Na;N0b;Ra:w1;Rb:w2y2;Rb:x3;Ra:x4;Ra:y5;Rb:x6!;Ra.p:z1;");
        check.due("two values", 0, three.ask());
        three.switches(5);
        check.due("three values of x of 1", 5, three.ask());
    }

    private static void nothingToAsk() {
        StyleTree none = new StyleTree();
        check.due("no rules", -9, none.ask());
        check.due("one rule", -9, check.told("Na;Ra:w1;").ask());
        check.due("no nodes", -9, check.told("Ra:w1;Ra:x1;").ask());
        StyleTree x = check.told("Na;Ra:w1;Ra:w2;");
        check.due("two rules", 0, x.ask());
        x.sees(0, 0, 7);
        check.due("none can be", 0, x.unseen());
        check.due("nothing to ask", -9, x.ask());
        // Two rules can be, but no value tells one from the other.
        StyleTree alike = check.told("Na;Rb:w1;Rb:w2;");
        check.due("both can be", 3, alike.unseen());
        check.due("one value at most", -9, alike.ask());
    }

    private static void wrongNumbers() {
        StyleTree x = check.told("Na;N0a;Ra.p:w1;");
        int[] wild = {-1, 10, Integer.MIN_VALUE, Integer.MAX_VALUE};
        for (int number : wild) {
            check.due("sees(" + number + ", 0, 0)", -2, x.sees(number, 0, 0));
            check.due("sees(0, " + number + ", 0)", -2, x.sees(0, number, 0));
            check.due("sees(0, 0, " + number + ")", -2, x.sees(0, 0, number));
        }
        check.due("sees(2, 0, 0)", -2, x.sees(2, 0, 0));
        check.due("sees(0, 4, 0)", -2, x.sees(0, 4, 0));
        check.due("nothing seen", 0, x.count(4));
    }
}
