/** Promises 5 and 6: node, rule; and which rules match which nodes. */
public final class ToldTest {
    private static final Checker check = new Checker();

    public static void main(String[] args) {
        nodes();
        records();
        rules();
        matching();
        rowsOfNodes();
        nineNodes();
        rulesThatAreOff();
        wrongNumbers();
        check.end();
    }

    private static void nodes() {
        StyleTree x = check.told("Na;N0bp;N1cqs;N1d;N0a;Rb:w1;R.q:x2;Ra:w3;");
        int[][] want = {
            {-9, 0, 0, 4, 0, 30}, {0, 1, 1, 1, 1, 12}, {1, 2, 10, 2, 2, 0}, {1, 3, 0, 0, 1, 0}, {0, 0, 0, 4, 0, 0}
        };
        for (int n = 0; n < want.length; n++) {
            for (int what = 0; what < 6; what++) {
                check.due("node(" + n + ", " + what + ")", want[n][what], x.node(n, what));
            }
        }
    }

    private static void records() {
        StyleTree x = check.told("Na;N0b;N0b;N0c;N3b;Rb:y1;Rc:w2;");
        check.due("record of 0", 0, x.node(0, 4));
        check.due("record of 1", 1, x.node(1, 4));
        check.due("record of 2", 1, x.node(2, 4));
        check.due("record of 3", 3, x.node(3, 4));
        check.due("the same rule, another style handed down", 4, x.node(4, 4));
        check.due("unlike styles", 4, x.count(3));
        StyleTree z = check.told("Na;N0b;Rb:w0;");
        check.due("a 0 by a rule is like a 0 by none", 0, z.node(1, 4));
        StyleTree each = check.told("Na;N0b;N0c;N0d;Ra:w0;Rb:x1;Rc:y1;Rd:z1;");
        check.due("styles are told apart by each property", 4, each.count(3));
        StyleTree y = check.told("Na;N0b;N0c;Rb:y1;Rc:z1;");
        check.due("y and z are unlike", 2, y.node(2, 4));
    }

    private static void rules() {
        StyleTree x = check.told("Nap;N0b;RUa.p>b:w1!z2;R.p.q/c.r>d.s:x3y4!z5!;R.s.r.q.p:w0!x0y0!z0;");
        int[][] want = {
            {1, 2, 12, 9, 1, 1, 2}, {0, 3, 42, 14, 12, 1, 0}, {0, 1, 40, 15, 5, 1, 0}
        };
        for (int r = 0; r < want.length; r++) {
            for (int what = 0; what < 7; what++) {
                check.due("rule(" + r + ", " + what + ")", want[r][what], x.rule(r, what));
            }
        }
        StyleTree most = check.told("Na;RUd.s.r.q.p/c.p.q.r.s>b.q.p.r.s:w1;");
        check.due("most specific", 123, most.rule(0, 2));
    }

    private static void matching() {
        StyleTree x = check.told("Nap;N0bpq;N1a;N2bq;Ra:w1;R.p:w1;Rb.q:w1;R.p.q:w1;Ra>b:w1;Ra/b:w1;Rb.p>a:w1;R.p/.q:w1;");
        int[] want = {5, 3, 10, 2, 10, 10, 4, 10};
        for (int r = 0; r < want.length; r++) {
            check.due("rule(" + r + ", 6)", want[r], x.rule(r, 6));
        }
        check.due("node(0, 3)", 3, x.node(0, 3));
        check.due("node(1, 3)", 190, x.node(1, 3));
        check.due("node(2, 3)", 65, x.node(2, 3));
        check.due("node(3, 3)", 180, x.node(3, 3));
        StyleTree child = check.told("Na;N0b;N1c;Ra>c:w1;Ra/c:w1;Rc>c:w1;Rc/c:w1;Ra>a:w1;");
        check.due("a child alone", 0, child.rule(0, 6));
        check.due("below", 4, child.rule(1, 6));
        check.due("no node is its own child", 0, child.rule(2, 6));
        check.due("no node is below itself", 0, child.rule(3, 6));
        check.due("the root is no child", 0, child.rule(4, 6));
    }

    private static void rowsOfNodes() {
        // The nearest b has no parent a; a farther one does.
        StyleTree x = check.told("Na;N0b;N1c;N2b;N3d;Ra>b/d:w1;Rc>b/d:w1;Ra/b>d:w1;Ra>b>d:w1;Ra/c/d:w1;Rd/c/d:w1;");
        int[] want = {16, 16, 16, 0, 16, 0};
        for (int r = 0; r < want.length; r++) {
            check.due("row " + r, want[r], x.rule(r, 6));
        }
        // The parent of the nearest fits, the row above it does not.
        StyleTree y = check.told("Nap;N0a;N1a;N0b;N3a;R.p>a>a:w1;R.p/a/a:w1;R.p/b>a:w1;R.p>a/a:w1;");
        check.due("p>a>a", 4, y.rule(0, 6));
        check.due("p/a/a", 4, y.rule(1, 6));
        check.due("p/b>a", 16, y.rule(2, 6));
        check.due("p>a/a", 4, y.rule(3, 6));
    }

    private static void nineNodes() {
        StyleTree x = check.told("Na;N0a;N1a;N2a;N3a;N4a;N5a;N6a;N7a;Ra/a/a:w1;Ra>a>a:w2;Ra>a/a:x3;");
        for (int n = 0; n < 9; n++) {
            check.due("below " + n, 511 & ~((2 << n) - 1), x.node(n, 5));
        }
        check.due("a/a/a", 508, x.rule(0, 6));
        check.due("a>a>a", 508, x.rule(1, 6));
        check.due("a>a/a", 508, x.rule(2, 6));
        check.due("looked at", 0, x.change(0, 0, 0));
        check.due("two styles", 2, x.count(3));
        check.due("record of 8", 2, x.node(8, 4));
        check.due("ask", 8, x.ask());
        Checker.read(x, "Nb;N0b;");
        check.due("nothing of the larger tree is left", 2, x.node(0, 5));
    }

    private static void rulesThatAreOff() {
        StyleTree x = check.told("Na;N0a;Ra:w1;Ra:x2;");
        x.switches(0);
        check.due("off matches no node", 0, x.rule(0, 6));
        check.due("the other one does", 3, x.rule(1, 6));
        check.due("is off", 0, x.rule(0, 5));
        check.due("no node has it", 2, x.node(1, 3));
        check.due("specific stays", 1, x.rule(0, 2));
        check.due("declared stays", 1, x.rule(0, 3));
    }

    private static void wrongNumbers() {
        StyleTree x = check.told("Na;N0a;Ra:w1;");
        int[] wild = {-1, Integer.MIN_VALUE, Integer.MAX_VALUE, 1 << 30};
        for (int number : wild) {
            check.due("node(" + number + ", 0)", -2, x.node(number, 0));
            check.due("node(0, " + number + ")", -2, x.node(0, number));
            check.due("rule(" + number + ", 0)", -2, x.rule(number, 0));
            check.due("rule(0, " + number + ")", -2, x.rule(0, number));
        }
        check.due("node(2, 0)", -2, x.node(2, 0));
        check.due("node(0, 6)", -2, x.node(0, 6));
        check.due("rule(1, 0)", -2, x.rule(1, 0));
        check.due("rule(0, 7)", -2, x.rule(0, 7));
    }
}
