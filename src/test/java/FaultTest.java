/** Promise 4: the faults that a text can have, each with its place. */
public final class FaultTest {
    private static final Checker check = new Checker();
    private static final String NINE = "Na;N0a;N0a;N0a;N0a;N0a;N0a;N0a;N0a;";
    private static final String EIGHT = "Ra:w1;Ra:w1;Ra:w1;Ra:w1;Ra:w1;Ra:w1;Ra:w1;Ra:w1;";

    public static void main(String[] args) {
        items();
        nodes();
        selectors();
        declarations();
        numbers();
        otherLetters();
        tooEarly();
        theFirstFault();
        check.end();
    }

    private static void fault(int place, String text) {
        StyleTree x = new StyleTree();
        check.due(text, -10 - place, Checker.read(x, text));
        check.due("letters of " + text, text.length(), x.count(5));
    }

    private static void fine(int items, String text) {
        check.due(text, items, Checker.read(new StyleTree(), text));
    }

    private static void items() {
        fault(0, ";");
        fault(0, "a;");
        fault(0, "U;");
        fault(3, "Na;;");
        fault(3, "Na;p");
        fault(3, "Na;0a;");
        fault(2, "  w1;");
        fault(35, NINE + "N0a;");
        fault(35, NINE + "N");
        fine(17, NINE + EIGHT);
        fault(83, NINE + EIGHT + "R");
        fault(48, EIGHT + "Ra:w1;");
        fault(50, EIGHT + " N;");
    }

    private static void nodes() {
        fault(1, "N;");
        fault(1, "N0a;");
        fault(1, "Np;");
        fault(1, "NN");
        fault(4, "Na;Na;");
        fault(4, "Na;N1a;");
        fault(4, "Na;N9a;");
        fault(8, "Na;N0b;N2a;");
        fine(3, "Na;N0b;N1a;");
        fine(3, "Na;N0b;N0a;");
        fault(5, "Na;N0;");
        fault(6, "Na;N0 0a;");
        fault(2, "Nab;");
        fault(3, "Napp;");
        fault(5, "Napqrp;");
        fault(6, "Napqrsp;");
        fault(6, "Napqrss;");
        fault(6, "Napqrsa;");
        fine(1, "Nasrqp;");
        fault(2, "Na.p;");
        fault(2, "Na:");
        fault(2, "Naw;");
    }

    private static void selectors() {
        fault(1, "R:w0;");
        fault(1, "R;");
        fault(1, "Rp:w0;");
        fault(1, "R>a:w0;");
        fault(2, "RU:w0;");
        fault(2, "RUUa:w0;");
        fault(2, "RaU:w0;");
        fault(2, "R.:w0;");
        fault(2, "R..p:w0;");
        fault(2, "R.a:w0;");
        fault(2, "Rab:w0;");
        fault(2, "Rap:w0;");
        fault(3, "R.pa:w0;");
        fault(3, "R.pq:w0;");
        fault(4, "R.p.p:w1;");
        fault(5, "Ra.p.p:w1;");
        fault(10, "R.p.q.r.s.p:w1;");
        fault(10, "R.p.q.r.s.:w1;");
        fine(1, "R.p>.p/.p:w1;");
        fine(1, "RUd.s.r.q.p/c.p.q.r.s>b.q.p.r.s:w1;");
        fault(3, "Ra>:w1;");
        fault(3, "Ra/;");
        fault(3, "Ra>>b:w1;");
        fault(3, "Ra//b:w1;");
        fault(4, "R.p/U:w1;");
        fault(6, "Ra>b/c>d:w1;");
        fault(6, "Ra/b>c/d:w1;");
        fault(6, "Ra/a/a/:w1;");
        fault(2, "Ra;");
        fault(2, "Raw1;");
        fault(2, "Ra!:w1;");
    }

    private static void declarations() {
        fault(3, "Ra:;");
        fault(3, "Ra:1;");
        fault(3, "Ra:!;");
        fault(3, "Ra:a;");
        fault(3, "Ra::w1;");
        fault(4, "Ra:w;");
        fault(4, "Ra:wx1;");
        fault(4, "Ra:w!1;");
        fault(5, "Ra:w1w2;");
        fault(6, "Ra:w1!w2;");
        fault(7, "Ra:w1x2w3;");
        fault(11, "Ra:w1x2y3z4z5;");
        fault(12, "Ra:w1x2y3z4 1;");
        fine(1, "Ra:z1!y2x3!w4;");
        fault(6, "Ra:w1!!;");
        fault(5, "Ra:w1:x2;");
        fault(5, "Ra:w1N");
        fault(6, "Ra:w1!2;");
    }

    private static void numbers() {
        fault(4, "Ra:w10;");
        fault(4, "Ra:w01;");
        fault(4, "Ra:w00;");
        fault(4, "Ra:w99999999999999999999;");
        fault(4, "Ra:w4294967297;");
        fault(6, "Ra:w1 0;");
        fault(5, "Ra:w 10;");
        fault(4, "Na;N00a;");
        fault(4, "Na;N10a;");
        fault(1, "N00a;");
        fault(0, "10");
        fault(0, "00;");
        fault(3, "Na;10");
        fault(2, "Na10");
        fault(3, "Ra:10;");
        fine(1, "Ra:w0x9;");
    }

    private static void otherLetters() {
        for (int letter = 0; letter < 256; letter++) {
            boolean known = "NRUabcdpqrswxyz>/.:!; 0123456789".indexOf((char) letter) >= 0;
            if (!known) {
                fault(0, String.valueOf((char) letter));
                fault(1, "N" + (char) letter + "a;");
                fault(5, "Ra:w1" + (char) letter + ";");
            }
        }
        fault(1, "N-0a;");
        fault(2, "Nae;");
        fault(2, "Nan;");
        fault(4, "Ra:w-1;");
    }

    private static void tooEarly() {
        fault(1, "N");
        fault(2, "Na");
        fault(3, "Nap");
        fault(4, "Na;N");
        fault(5, "Na;N0");
        fault(6, "Na;N0b");
        fault(1, "R");
        fault(2, "RU");
        fault(2, "Ra");
        fault(2, "R.");
        fault(3, "R.p");
        fault(3, "Ra>");
        fault(3, "Ra:");
        fault(4, "Ra:w");
        fault(5, "Ra:w1");
        fault(6, "Ra:w1!");
        fault(7, "Ra:w1  ");
        fault(4, "   N");
        fault(6, "Na;N  ");
    }

    private static void theFirstFault() {
        fault(1, "N;e");
        fault(1, "NN10");
        fault(4, "Ra:w10 e");
        fault(2, "Nae10;;");
    }
}
