/** Promises 20 to 22: keep, back, count. */
public final class ImagesTest {
    private static final Checker check = new Checker();
    private static final String TEXT = "Nap;N0b;N1cq;Ra:w1;R.p>b:x2;Rc.q:y3;";

    public static void main(String[] args) {
        keepingAndBack();
        twoImages();
        nothingElse();
        counting();
        wrongNumbers();
        check.end();
    }

    private static void keepingAndBack() {
        StyleTree x = check.told(TEXT);
        check.due("none was kept", -3, x.back(0));
        check.due("keep(0)", 3, x.keep(0));
        String kept = Checker.state(x);
        x.toggles(0, 0);
        x.tags(1, 3);
        x.switches(2);
        check.due("the other one was not kept", -3, x.back(1));
        check.due("refused: all may be undone", 3, x.count(6));
        check.due("back(0)", 3, x.back(0));
        check.same("all as the image has it", kept, Checker.state(x));
        check.due("nothing can be undone", -3, x.undo());
        x.toggles(2, 1);
        check.due("the image stays", 3, x.back(0));
        check.same("all as the image has it again", kept, Checker.state(x));
        x.tags(0, 2);
        check.due("kept over", 3, x.keep(0));
        x.tags(0, 1);
        x.back(0);
        check.due("the later tag", 2, x.node(0, 1));
        StyleTree empty = new StyleTree();
        check.due("keep of nothing", 0, empty.keep(1));
        check.due("back to nothing", 0, empty.back(1));
        check.due("the other one", -3, empty.back(0));
    }

    private static void twoImages() {
        StyleTree x = check.told(TEXT);
        x.switches(0);
        x.keep(0);
        x.switches(1);
        x.toggles(0, 3);
        x.keep(1);
        x.tags(2, 0);
        check.due("back(0)", 3, x.back(0));
        check.due("on", 6, x.count(2));
        check.due("classes", 1, x.node(0, 2));
        check.due("tag", 2, x.node(2, 1));
        check.due("back(1)", 3, x.back(1));
        check.due("on", 4, x.count(2));
        check.due("classes", 9, x.node(0, 2));
    }

    private static void nothingElse() {
        StyleTree x = check.told(TEXT);
        x.toggles(0, 1);
        x.keep(0);
        check.due("keep: it may be undone", 1, x.count(6));
        x.sees(0, 0, 1);
        x.type('N');
        x.back(0);
        check.due("seen stays", 1, x.count(4));
        check.due("the text stays", 1, x.count(5));
        check.due("nothing may be undone", 0, x.count(6));
    }

    private static void counting() {
        StyleTree x = check.told(TEXT);
        int[] want = {3, 3, 7, 3, 0, 0, 0};
        for (int what = 0; what < want.length; what++) {
            check.due("count(" + what + ")", want[what], x.count(what));
        }
        x.switches(0);
        x.switches(1);
        x.switches(2);
        x.sees(0, 0, 1);
        x.sees(0, 0, 1);
        x.type('x');
        int[] then = {3, 3, 0, 1, 2, 1, 3};
        for (int what = 0; what < then.length; what++) {
            check.due("count(" + what + ")", then[what], x.count(what));
        }
    }

    private static void wrongNumbers() {
        StyleTree x = check.told(TEXT);
        x.keep(0);
        int[] wild = {-1, 2, 31, 32, Integer.MIN_VALUE, Integer.MAX_VALUE};
        for (int number : wild) {
            check.due("keep(" + number + ")", -2, x.keep(number));
            check.due("back(" + number + ")", -2, x.back(number));
        }
        check.due("the other one was not kept", -3, x.back(1));
        int[] whats = {-1, 7, Integer.MIN_VALUE, Integer.MAX_VALUE};
        for (int what : whats) {
            check.due("count(" + what + ")", -2, x.count(what));
        }
    }
}
