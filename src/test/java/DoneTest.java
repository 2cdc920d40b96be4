/** Promises 7 to 10: toggles, tags, switches, undo. */
public final class DoneTest {
    private static final Checker check = new Checker();
    private static final String TEXT = "Nap;N0b;N1cq;Ra:w1;R.p>b:x2;Rc.q:y3;RUd:z4;";

    public static void main(String[] args) {
        toggling();
        tagging();
        switching();
        undoing();
        tenAreKnown();
        refusedIsNotKnown();
        wrongNumbers();
        check.end();
    }

    private static void toggling() {
        StyleTree x = check.told(TEXT);
        check.due("x of 1 by p on 0", 2, x.value(1, 1));
        check.due("p off 0", 0, x.toggles(0, 0));
        check.due("x of 1 without it", 0, x.value(1, 1));
        check.due("s on 0", 8, x.toggles(0, 3));
        check.due("r on 0", 12, x.toggles(0, 2));
        check.due("p on 0", 13, x.toggles(0, 0));
        check.due("classes of 0", 13, x.node(0, 2));
        check.due("x of 1 again", 2, x.value(1, 1));
        check.due("q off 2", 0, x.toggles(2, 1));
        check.due("y of 2", 0, x.value(2, 2));
        check.due("done", 5, x.count(6));
    }

    private static void tagging() {
        StyleTree x = check.told(TEXT);
        check.due("1 becomes d", 1, x.tags(1, 3));
        check.due("tag of 1", 3, x.node(1, 1));
        check.due("x of 1", 0, x.value(1, 1));
        check.due("z of 1", 4, x.value(1, 3));
        check.due("1 is d", -3, x.tags(1, 3));
        check.due("refused is not known", 1, x.count(6));
        check.due("1 becomes a", 3, x.tags(1, 0));
        check.due("classes stay", 1, x.node(0, 2));
        check.due("all on", 15, x.count(2));
        for (int n = 0; n < 3; n++) {
            int was = x.node(n, 1);
            for (int tag = 0; tag < 4; tag++) {
                check.due("tags(" + n + ", " + tag + ")", tag == was ? -3 : was, x.tags(n, tag));
                check.due("tag of " + n, tag, x.node(n, 1));
                was = tag;
            }
        }
        check.due("all on still", 15, x.count(2));
        StyleTree first = check.told("Na;Ra:w1;");
        first.tags(0, 1);
        check.due("0 becomes a again", 1, first.tags(0, 0));
        check.due("tag of 0", 0, first.node(0, 1));
        check.due("w of 0", 1, first.value(0, 0));
        first.undo();
        first.undo();
        check.due("0 is a by undo", 0, first.node(0, 1));
    }

    private static void switching() {
        StyleTree x = check.told(TEXT);
        check.due("0 off", 0, x.switches(0));
        check.due("w of 0", 0, x.value(0, 0));
        check.due("w of 2", 0, x.value(2, 0));
        check.due("3 off", 0, x.switches(3));
        check.due("on", 6, x.count(2));
        check.due("0 on", 1, x.switches(0));
        check.due("on", 7, x.count(2));
        check.due("w of 2 again", 1, x.value(2, 0));
    }

    /** A new tree each time, since an object is good for 512 calls. */
    private static StyleTree afterFirst(int changes) {
        StyleTree x = check.told(TEXT);
        for (int i = 0; i < changes; i++) {
            switch (i) {
                case 0 -> x.toggles(0, 0);
                case 1 -> x.tags(1, 2);
                case 2 -> x.switches(2);
                case 3 -> x.tags(1, 3);
                default -> x.toggles(2, 3);
            }
        }
        return x;
    }

    private static void undoing() {
        for (int undone = 1; undone <= 5; undone++) {
            StyleTree x = afterFirst(5);
            for (int i = 1; i <= undone; i++) {
                check.due("undo", 5 - i, x.undo());
            }
            String want = Checker.state(afterFirst(5 - undone));
            check.same(undone + " undone", want, Checker.state(x));
        }
        StyleTree x = check.told(TEXT);
        x.switches(1);
        check.due("undo", 0, x.undo());
        check.due("an undo is not undone", -3, x.undo());
    }

    private static void tenAreKnown() {
        StyleTree x = check.told("Na;N0b;N0c;Ra:w1;Rb:w2;");
        x.tags(0, 3);
        x.toggles(1, 0);
        for (int i = 0; i < 3; i++) {
            x.toggles(0, i);
            x.tags(2, i);
            x.switches(i % 2);
        }
        check.due("ten may be undone, of eleven", 10, x.count(6));
        x.toggles(2, 3);
        check.due("ten may be undone, of twelve", 10, x.count(6));
        for (int left = 9; left >= 0; left--) {
            check.due("undo", left, x.undo());
        }
        check.due("older ones are lost", -3, x.undo());
        check.due("the first tag stays", 3, x.node(0, 1));
        check.due("the second class stays", 1, x.node(1, 2));
        check.due("the third is undone", 0, x.node(0, 2));
        check.due("tag of 2", 2, x.node(2, 1));
        check.due("rules are on", 3, x.count(2));
    }

    private static void refusedIsNotKnown() {
        StyleTree x = check.told(TEXT);
        x.switches(0);
        x.toggles(9, 0);
        x.tags(0, 0);
        x.switches(9);
        x.keep(0);
        x.sees(0, 0, 0);
        x.change(0, 0, 1);
        x.wanted(0, 0, 9);
        check.due("one may be undone", 1, x.count(6));
        check.due("undo", 0, x.undo());
        check.due("all on", 15, x.count(2));
    }

    private static void wrongNumbers() {
        StyleTree x = check.told(TEXT);
        String before = Checker.state(x);
        int[] wild = {-1, 9, Integer.MIN_VALUE, Integer.MAX_VALUE};
        for (int number : wild) {
            check.due("toggles(" + number + ", 0)", -2, x.toggles(number, 0));
            check.due("toggles(0, " + number + ")", -2, x.toggles(0, number));
            check.due("tags(" + number + ", 0)", -2, x.tags(number, 0));
            check.due("tags(0, " + number + ")", -2, x.tags(0, number));
            check.due("switches(" + number + ")", -2, x.switches(number));
        }
        check.due("toggles(3, 0)", -2, x.toggles(3, 0));
        check.due("toggles(0, 4)", -2, x.toggles(0, 4));
        check.due("tags(3, 0)", -2, x.tags(3, 0));
        check.due("tags(0, 4)", -2, x.tags(0, 4));
        check.due("switches(4)", -2, x.switches(4));
        check.same("nothing changed", before, Checker.state(x));
    }
}
