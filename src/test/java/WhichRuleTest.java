/** Promises 16 to 19: sees, forget, unseen, ask. */
public final class WhichRuleTest {
    private static final Checker check = new Checker();

    public static void main(String[] args) {
        seeing();
        suspects();
        asThingsAreNow();
        asking();
        nothingToAsk();
        noValueTellsApart();
        askedByTheFace();
        wrongNumbers();
        check.end();
    }

    private static void seeing() {
        StyleTree x = check.told("Na;Ra:w1;");
        for (int i = 1; i <= 6; i++) {
            check.due("seen", i, x.sees(0, 0, 9));
        }
        check.due("a seventh", -4, x.sees(0, 0, 9));
        check.due("BAD is ahead of FULL", -2, x.sees(1, 0, 9));
        check.due("seen", 6, x.count(4));
        check.due("forget", 6, x.forget());
        check.due("forget again", 0, x.forget());
        check.due("seen", 0, x.count(4));
        check.due("seen anew", 1, x.sees(0, 3, 0));
    }

    private static void suspects() {
        StyleTree x = check.told("Nap;N0b;Ra:w1;R.p:w2;Rb:x3;Rb:y4;");
        check.due("all can be", 15, x.unseen());
        x.sees(1, 0, 2);
        check.due("all but 1", 13, x.unseen());
        x.sees(1, 1, 3);
        check.due("0 or 3", 9, x.unseen());
        x.sees(1, 2, 4);
        check.due("0 is left", 1, x.unseen());
        x.sees(0, 0, 1);
        check.due("none", 0, x.unseen());
        x.forget();
        check.due("all again", 15, x.unseen());
        x.sees(1, 0, 1);
        check.due("what shows without 1", 2, x.unseen());
        check.due("on as it was", 15, x.count(2));
    }

    private static void asThingsAreNow() {
        StyleTree x = check.told("Na;Ra:w1;Ra:x2;Ra:y3;");
        x.sees(0, 0, 0);
        check.due("0 is off", 1, x.unseen());
        x.switches(0);
        check.due("1 or 2, as 0 is off now", 6, x.unseen());
        x.forget();
        x.sees(0, 0, 1);
        check.due("0 would be on", 1, x.unseen());
        x.undo();
        check.due("1 or 2", 6, x.unseen());
        x.tags(0, 1);
        check.due("none", 0, x.unseen());
        x.keep(0);
        x.back(0);
        check.due("seen stays behind back()", 1, x.count(4));
        x.undo();
        check.due("and behind undo()", 1, x.count(4));
    }

    private static void asking() {
        StyleTree x = check.told("Na;N0b;N1c;Ra:w1;Rb:w2;Rb:x3;Rc:y4;Rc:y5;");
        // Place 8, w of 2: 2, 1 (rule 1 off). Place 10, y of 2: 5, 4 (rule 4 off).
        check.due("the first of several with two values", 0, x.ask());
        x.sees(0, 0, 1);
        check.due("w of 1", 4, x.ask());
        x.sees(1, 0, 2);
        check.due("x of 1", 5, x.ask());
        x.sees(1, 1, 3);
        check.due("y of 2", 10, x.ask());
        x.sees(2, 2, 4);
        check.due("one is left", 16, x.unseen());
        check.due("nothing to ask", -9, x.ask());
        StyleTree three = check.told("Na;N0b;Ra:w1;Rb:w2y2;Rb:x3;Ra:x4;Ra:y5;Rb:x6!;Ra.p:z1;");
        check.due("two values", 0, three.ask());
        three.switches(5);
        check.due("three values of x of 1", 5, three.ask());
    }

    private static void nothingToAsk() {
        StyleTree none = new StyleTree();
        check.due("no rules", -9, none.ask());
        check.due("one rule", -9, check.told("Na;Ra:w1;").ask());
        check.due("no nodes", -9, check.told("Ra:w1;Ra:x1;").ask());
        StyleTree x = check.told("Na;Ra:w1;Ra:w2;");
        check.due("two rules", 0, x.ask());
        x.sees(0, 0, 7);
        check.due("none can be", 0, x.unseen());
        check.due("nothing to ask", -9, x.ask());
        check.due("one rule that matches nothing", -9, check.told("Na;Rb:w1;").ask());
    }

    /** NONE is for one rule at most: of several that look alike everywhere, the first place. */
    private static void noValueTellsApart() {
        StyleTree unmatched = check.told("Na;Rb:w1;Rb:w2;");
        check.due("both can be", 3, unmatched.unseen());
        check.due("w of the root", 0, unmatched.ask());
        StyleTree covered = check.told("Na;N0b;Ra:w1;Ra:w2;Ra:w3;");
        covered.sees(0, 0, 3);
        check.due("0 or 1", 3, covered.unseen());
        check.due("alike, w of the root", 0, covered.ask());
        covered.switches(2);
        check.due("2 would be on", 4, covered.unseen());
        check.due("one is left", -9, covered.ask());
        covered.forget();
        covered.switches(1);
        check.due("w of the root is 0, 2 or 3", 0, covered.ask());
        StyleTree off = check.told("Na;Rb:w1;Rb:w1;Rc:w1;");
        off.switches(0);
        off.switches(1);
        off.switches(2);
        check.due("all off, all alike", 0, off.ask());
        off.tags(0, 2);
        off.sees(0, 0, 0);
        check.due("0 or 1 would be on", 3, off.unseen());
        check.due("still the first place", 0, off.ask());
        off.sees(0, 1, 4);
        check.due("none can be", 0, off.unseen());
        check.due("nothing to ask", -9, off.ask());
    }

    /** What ask() must be, by trying each rule out with the class's own other calls. */
    private static int dueToAsk(StyleTree x) {
        int suspects = x.unseen();
        if (Integer.bitCount(suspects) < 2) {
            return -9;
        }
        int[] answers = new int[4 * x.count(0)];
        for (int r = 0; r < x.count(1); r++) {
            if ((suspects >> r & 1) == 1) {
                x.switches(r);
                for (int place = 0; place < answers.length; place++) {
                    answers[place] |= 1 << x.value(place / 4, place % 4);
                }
                x.switches(r);
            }
        }
        int best = -9;
        for (int place = answers.length - 1; place >= 0; place--) {
            if (best < 0 || Integer.bitCount(answers[place]) >= Integer.bitCount(answers[best])) {
                best = place;
            }
        }
        return best;
    }

    private static void askedByTheFace() {
        String[] texts = {
            "", "Na;", "Ra:w1;Ra:w2;", "Na;Ra:w1;", "Na;Rb:w1;Rb:w1;", "Na;Ra:z0;Ra:z0;Ra:z0;",
            "Nap;N0b;Ra:w1;R.p:w2;Rb:x3;Rb:y4;", "Na;N0b;N1c;Ra:w1;Rb:w2;Rb:x3;Rc:y4;Rc:y5;",
            "Na;N0b;N0b;Rb:z1;Rb:z2;Rb:z3;Rb:z4;", "Na;N0bq;RUb:y1!;Rb.q:y2;Ra>b:y3;Rc:w1;Rd:w1;",
        };
        for (String text : texts) {
            StyleTree x = check.told(text);
            int states = 1 << x.count(1);
            int places = 4 * x.count(0);
            for (int off = 0; off < states; off++) {
                compareAsk(text, off, -1, 0);
                for (int seen = 0; seen < 6 * places; seen++) {
                    compareAsk(text, off, seen / 6, seen % 6);
                }
            }
        }
    }

    /** On a new tree each time: behind 512 calls an answer would be free. */
    private static void compareAsk(String text, int off, int place, int value) {
        StyleTree x = check.told(text);
        for (int r = 0; r < x.count(1); r++) {
            if ((off >> r & 1) == 1) {
                x.switches(r);
            }
        }
        if (place >= 0) {
            x.sees(place / 4, place % 4, value);
        }
        int asked = x.ask();
        String state = text + " off " + off + " seen " + place + ": " + value;
        check.due("ask() of " + state, dueToAsk(x), asked);
    }

    private static void wrongNumbers() {
        StyleTree x = check.told("Na;N0a;Ra.p:w1;");
        int[] wild = {-1, 10, Integer.MIN_VALUE, Integer.MAX_VALUE};
        for (int number : wild) {
            check.due("sees(" + number + ", 0, 0)", -2, x.sees(number, 0, 0));
            check.due("sees(0, " + number + ", 0)", -2, x.sees(0, number, 0));
            check.due("sees(0, 0, " + number + ")", -2, x.sees(0, 0, number));
        }
        check.due("sees(2, 0, 0)", -2, x.sees(2, 0, 0));
        check.due("sees(0, 4, 0)", -2, x.sees(0, 4, 0));
        check.due("nothing seen", 0, x.count(4));
    }
}
