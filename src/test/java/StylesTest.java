/** Promises 11 to 13: value, winner, source. */
public final class StylesTest {
    private static final Checker check = new Checker();

    public static void main(String[] args) {
        handingDown();
        strongAndUser();
        specific();
        withoutTheWinner();
        wrongNumbers();
        check.end();
    }

    private static void styleIs(StyleTree x, int n, int p, int value, int source) {
        check.due("value(" + n + ", " + p + ")", value, x.value(n, p));
        check.due("source(" + n + ", " + p + ")", source, x.source(n, p));
    }

    private static void handingDown() {
        StyleTree x = check.told("Na;N0b;N1c;N0d;Ra:w1x2y3z4;Rb:x5z0;Rd:w0;");
        styleIs(x, 0, 0, 1, 0);
        styleIs(x, 0, 1, 2, 0);
        styleIs(x, 0, 2, 3, 0);
        styleIs(x, 0, 3, 4, 0);
        styleIs(x, 1, 0, 1, 0);
        styleIs(x, 1, 1, 5, 1);
        styleIs(x, 1, 2, 0, -9);
        styleIs(x, 1, 3, 0, 1);
        styleIs(x, 2, 0, 1, 0);
        styleIs(x, 2, 1, 5, 1);
        styleIs(x, 2, 2, 0, -9);
        styleIs(x, 2, 3, 0, -9);
        styleIs(x, 3, 0, 0, 3);
        styleIs(x, 3, 1, 2, 0);
        check.due("what is handed down is won by no rule", -9, x.winner(2, 0, 0));
        StyleTree none = check.told("Na;N0b;Rb:w1;");
        styleIs(none, 0, 0, 0, -9);
        styleIs(none, 0, 1, 0, -9);
        styleIs(none, 1, 1, 0, -9);
        styleIs(none, 1, 0, 1, 1);
    }

    private static void winnersAre(StyleTree x, int... want) {
        for (int k = 0; k < want.length; k++) {
            check.due("winner(0, 0, " + k + ")", want[k], x.winner(0, 0, k));
        }
        check.due("no more", -9, x.winner(0, 0, want.length));
        check.due("value", x.rule(want[0], 3) == 1 ? want[0] + 1 : -1, x.value(0, 0));
    }

    private static void strongAndUser() {
        winnersAre(check.told("Nap;RUa.p:w1!;R.p:w2!;Ra.p:w3;RU.p:w4;"), 0, 1, 2, 3);
        winnersAre(check.told("Nap;RU.p:w1;R.p:w2;R.p:w3!;RU.p:w4!;"), 3, 2, 1, 0);
        winnersAre(check.told("Napq;R.p.q:w1!;RUa:w2!;"), 1, 0);
        winnersAre(check.told("Napq;RU.p.q:w1;Ra:w2;"), 1, 0);
        winnersAre(check.told("Napq;R.p.q:w1;Ra:w2!;"), 1, 0);
        winnersAre(check.told("Napq;RU.p.q:w1;RUa:w2!;"), 1, 0);
        StyleTree x = check.told("Na;Ra:w1!y1;Ra:w2y2!;");
        check.due("strong is of one declaration", 0, x.winner(0, 0, 0));
        check.due("strong is of one declaration", 1, x.winner(0, 2, 0));
    }

    private static void specific() {
        winnersAre(check.told("Nap;R.p:w1;Ra:w2;"), 0, 1);
        winnersAre(check.told("Nap;Ra.p:w1;R.p:w2;Ra:w3;"), 0, 1, 2);
        winnersAre(check.told("Nap;Ra:w1;Ra:w2;Ra:w3;"), 2, 1, 0);
        winnersAre(check.told("Napq;R.p.q:w1!;R.p:w2!;R.q:w3!;"), 0, 2, 1);
        winnersAre(check.told("Nap;RU.p:w1!;RUa:w2!;RUa.p:w3!;"), 2, 0, 1);
        winnersAre(check.told("Nap;RU.p:w1;RUa:w2;RUa.p:w3;"), 2, 0, 1);
        StyleTree x = check.told("Na;N0a;N1a;Ra/a/a:w1;Ra>a:w2;Ra:w3;");
        check.due("of all compounds", 0, x.winner(2, 0, 0));
        check.due("then", 1, x.winner(2, 0, 1));
        check.due("then", 2, x.winner(2, 0, 2));
        check.due("then", -9, x.winner(2, 0, 3));
    }

    private static void withoutTheWinner() {
        StyleTree x = check.told("Na;Ra:w1;Ra:w2;Ra:x3;Ra:w4;Ra:w5;Ra:w6;Ra:w7;Ra:w8;");
        int[] want = {7, 6, 5, 4, 3, 1, 0, -9, -9};
        for (int k = 0; k < want.length; k++) {
            check.due("winner(0, 0, " + k + ")", want[k], x.winner(0, 0, k));
        }
        check.due("far beyond", -9, x.winner(0, 0, Integer.MAX_VALUE));
        x.switches(7);
        check.due("off is out", 6, x.winner(0, 0, 0));
        check.due("its value", 7, x.value(0, 0));
        check.due("of no rule", -9, x.winner(0, 3, 0));
    }

    private static void wrongNumbers() {
        StyleTree x = check.told("Na;N0a;Ra:w1;");
        int[] wild = {-1, 9, Integer.MIN_VALUE, Integer.MAX_VALUE};
        for (int number : wild) {
            check.due("value(" + number + ", 0)", -2, x.value(number, 0));
            check.due("value(0, " + number + ")", -2, x.value(0, number));
            check.due("winner(" + number + ", 0, 0)", -2, x.winner(number, 0, 0));
            check.due("winner(0, " + number + ", 0)", -2, x.winner(0, number, 0));
            check.due("source(" + number + ", 0)", -2, x.source(number, 0));
            check.due("source(0, " + number + ")", -2, x.source(0, number));
        }
        check.due("value(2, 0)", -2, x.value(2, 0));
        check.due("value(0, 4)", -2, x.value(0, 4));
        check.due("winner(2, 0, 0)", -2, x.winner(2, 0, 0));
        check.due("winner(0, 4, 0)", -2, x.winner(0, 4, 0));
        check.due("winner(0, 0, -1)", -2, x.winner(0, 0, -1));
        check.due("winner(0, 0, least)", -2, x.winner(0, 0, Integer.MIN_VALUE));
        check.due("source(2, 0)", -2, x.source(2, 0));
        check.due("source(0, 4)", -2, x.source(0, 4));
    }
}
