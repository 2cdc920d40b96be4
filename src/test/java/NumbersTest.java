/**
 * Promises 2, 5 to 9, 11 to 16 and 20 to 22: a number that is not as told, or of which there is no
 * such thing, is BAD, and nothing changes; the least and the most of each are fine.
 */
public final class NumbersTest {
    private static final Checker check = new Checker();
    /** 32 and 256 off a number that is fine: what a shift or a narrow cast would take for it. */
    private static final int[] WILD = {
        -1, Integer.MIN_VALUE, Integer.MAX_VALUE, 32, -32, 256, -256, 1 << 16, Integer.MIN_VALUE + 1
    };

    public static void main(String[] args) {
        for (String text : Scene.TEXTS) {
            StyleTree x = check.told(text);
            String untouched = Scene.allOf(Scene.of(text));
            for (Calls call : Calls.of(x.count(0), x.count(1))) {
                for (int i = 0; i < call.mosts.length; i++) {
                    oneWrong(text, call, i, untouched);
                }
                leastAndMost(text, call);
                allWrong(text, call, untouched);
            }
        }
        check.end();
    }

    /** The corners of what a call takes: bit i tells whether number i is the most or the least. */
    private static int[] corner(Calls call, int bits) {
        int[] numbers = new int[call.mosts.length];
        for (int i = 0; i < numbers.length; i++) {
            numbers[i] = (bits >> i & 1) == 1 ? Math.max(0, call.mosts[i]) : 0;
        }
        return numbers;
    }

    private static int corners(Calls call) {
        return 1 << call.mosts.length;
    }

    private static void leastAndMost(String text, Calls call) {
        for (int bits = 0; bits < corners(call); bits++) {
            int[] numbers = corner(call, bits);
            if (call.takes(numbers)) {
                int answer = call.answer(Scene.of(text), numbers);
                check.due(text + " " + call.told(numbers) + " is BAD", 0, answer == -2 ? 1 : 0);
            }
        }
    }

    private static void oneWrong(String text, Calls call, int i, String untouched) {
        for (int bits = 0; bits < corners(call); bits++) {
            int[] numbers = corner(call, bits);
            for (int wild : WILD) {
                numbers[i] = wild;
                refused(text, call, numbers, untouched);
            }
            // The most is the greatest int for winner's k alone, and there is none above that.
            numbers[i] = call.mosts[i] + 1;
            refused(text, call, numbers, untouched);
        }
    }

    private static void allWrong(String text, Calls call, String untouched) {
        for (int wild : WILD) {
            int[] numbers = new int[call.mosts.length];
            for (int i = 0; i < numbers.length; i++) {
                numbers[i] = wild;
            }
            refused(text, call, numbers, untouched);
        }
    }

    private static void refused(String text, Calls call, int[] numbers, String untouched) {
        if (call.takes(numbers)) {
            return;
        }
        StyleTree x = Scene.of(text);
        String told = text + " " + call.told(numbers);
        check.due(told, -2, call.answer(x, numbers));
        check.same(told + " changes nothing", untouched, Scene.allOf(x));
    }
}
