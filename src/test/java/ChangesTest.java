/** Promises 14 and 15: change, wanted. */
public final class ChangesTest {
    private static final Checker check = new Checker();

    public static void main(String[] args) {
        lookedAt();
        different();
        nothingIsChanged();
        wantedByClass();
        wantedByRule();
        wrongNumbers();
        check.end();
    }

    private static void lookedAt() {
        StyleTree x = check.told("Na;N0b;N1c;N1b;N0c;R.p>c:w1;R.q/b.r:w2;Rd.s:w3;");
        check.due("all below that the last fits, for > too", 20, x.change(0, 0, 0));
        check.due("below 1", 4, x.change(1, 0, 0));
        check.due("below a leaf", 0, x.change(2, 0, 0));
        check.due("the last must fit now", 0, x.change(0, 1, 0));
        check.due("the last: itself, if it does not fit too", 1, x.change(0, 3, 0));
        check.due("the last: itself", 4, x.change(2, 2, 0));
        x.toggles(3, 2);
        check.due("the last fits then", 8, x.change(0, 1, 0));
        x.switches(0);
        check.due("of rules that are on", 0, x.change(0, 0, 0));
        StyleTree both = check.told("Na;N0ap;N1ap;Ra.p/a.p:w1;R.q/.r>b:w1;R.r/.q:w1;");
        check.due("itself and all below", 7, both.change(0, 0, 0));
        check.due("of 1", 6, both.change(1, 0, 0));
        check.due("an inner one", 0, both.change(0, 2, 0));
        check.due("the last of another rule", 2, both.change(1, 1, 0));
        StyleTree twice = check.told("Na;N0b;N1c;R.p:w1;Ra.p:w2;R.q/c:w1;R.q>c:w2;R.r/.r/c:w3;R.r/.s>.s:w4;");
        check.due("by two rules itself", 1, twice.change(0, 0, 0));
        check.due("by two rules below", 4, twice.change(0, 1, 0));
        check.due("by two compounds", 4, twice.change(0, 2, 0));
        check.due("by an inner one and the last", 1, twice.change(0, 3, 0));
    }

    private static void different() {
        StyleTree x = check.told("Na;N0b;N1c;N1b;N0c;R.p>c:w1;R.q:x2;R.r:y3;R.s:w0;");
        check.due("children alone", 16, x.change(0, 0, 1));
        check.due("handed down", 31, x.change(0, 1, 1));
        check.due("handed down from 1", 14, x.change(1, 1, 1));
        check.due("not handed down", 1, x.change(0, 2, 1));
        check.due("the same value", 0, x.change(0, 3, 1));
        x.toggles(0, 1);
        check.due("taken off", 31, x.change(0, 1, 1));
        x.toggles(1, 1);
        check.due("1 has it by itself", 17, x.change(0, 1, 1));
        check.due("1 has it handed down, too", 0, x.change(1, 1, 1));
        x.switches(1);
        check.due("off", 0, x.change(0, 1, 1));
    }

    private static void nothingIsChanged() {
        StyleTree x = check.told("Na;N0b;N1c;R.p>c:w1;R.q:x2;");
        x.sees(0, 0, 0);
        String before = Checker.state(x);
        for (int n = 0; n < 3; n++) {
            for (int c = 0; c < 4; c++) {
                x.change(n, c, 0);
                x.change(n, c, 1);
                x.wanted(n, c, 1);
                x.wanted(n, c, 9);
            }
        }
        check.same("nothing is changed", before, Checker.state(x));
    }

    private static void wantedByClass() {
        StyleTree x = check.told("Na;N0b;N1c;R.p:w1;R.s>c:y2;R.r/c:x3;Rb.q:w4;");
        check.due("it has it", -1, x.wanted(2, 0, 0));
        check.due("by p on 0", 0, x.wanted(0, 0, 1));
        check.due("by p on 0, handed down", 0, x.wanted(2, 0, 1));
        check.due("by s on 1", 7, x.wanted(2, 2, 2));
        check.due("by r on 0", 2, x.wanted(2, 1, 3));
        check.due("by q on 1", 5, x.wanted(2, 0, 4));
        check.due("by none", -9, x.wanted(0, 0, 4));
        check.due("by none", -9, x.wanted(2, 3, 1));
        x.toggles(1, 0);
        check.due("it has it", -1, x.wanted(2, 0, 1));
        check.due("by p off 1", 4, x.wanted(2, 0, 0));
        check.due("the last class of the last node", -1, x.wanted(2, 2, 0));
        StyleTree last = check.told("Na;N0a;N0a;N0a;N0a;N0a;N0a;N0a;N0b;Rb.s:z9;");
        check.due("s on 8", 35, last.wanted(8, 3, 9));
    }

    private static void wantedByRule() {
        StyleTree x = check.told("Nap;N0b;Ra:w1;R.p:w2;Rb:x3;Ra:y4;");
        check.due("by rule 1 off, but p off 0 is less", 0, x.wanted(1, 0, 1));
        check.due("by rule 2", 102, x.wanted(1, 1, 0));
        check.due("by rule 3", 103, x.wanted(0, 2, 0));
        x.switches(3);
        check.due("by rule 3 on", 103, x.wanted(0, 2, 4));
        x.switches(2);
        check.due("by rule 2 on", 102, x.wanted(1, 1, 3));
        check.due("by rule 0", 100, check.told("Na;Ra:w1;").wanted(0, 0, 0));
        StyleTree tag = check.told("Na;Rb:w1;");
        check.due("a tag is none of the changes", -9, tag.wanted(0, 0, 1));
        StyleTree eight = check.told("Na;Rb:w1;Rb:w1;Rb:w1;Rb:w1;Rb:w1;Rb:w1;Rb:w1;Ra:w8;");
        check.due("by rule 7", 107, eight.wanted(0, 0, 0));
    }

    private static void wrongNumbers() {
        StyleTree x = check.told("Na;N0a;Ra.p:w1;");
        int[] wild = {-1, 10, Integer.MIN_VALUE, Integer.MAX_VALUE};
        for (int number : wild) {
            check.due("change(" + number + ", 0, 0)", -2, x.change(number, 0, 0));
            check.due("change(0, " + number + ", 0)", -2, x.change(0, number, 0));
            check.due("change(0, 0, " + number + ")", -2, x.change(0, 0, number));
            check.due("wanted(" + number + ", 0, 0)", -2, x.wanted(number, 0, 0));
            check.due("wanted(0, " + number + ", 0)", -2, x.wanted(0, number, 0));
            check.due("wanted(0, 0, " + number + ")", -2, x.wanted(0, 0, number));
        }
        check.due("change(2, 0, 0)", -2, x.change(2, 0, 0));
        check.due("change(0, 4, 0)", -2, x.change(0, 4, 0));
        check.due("change(0, 0, 2)", -2, x.change(0, 0, 2));
        check.due("wanted(2, 0, 0)", -2, x.wanted(2, 0, 0));
        check.due("wanted(0, 4, 0)", -2, x.wanted(0, 4, 0));
        check.due("wanted(0, 0, 9)", -9, x.wanted(0, 0, 9));
    }
}
