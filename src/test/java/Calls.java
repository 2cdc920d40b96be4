import java.util.Arrays;
import java.util.List;

/** The calls that take numbers, each with the most that each number may be; the least is always 0. */
final class Calls {
    interface Answer {
        int of(StyleTree x, int[] numbers);
    }

    final String name;
    final int[] mosts;
    private final Answer answer;

    private Calls(String name, Answer answer, int... mosts) {
        this.name = name;
        this.answer = answer;
        this.mosts = mosts;
    }

    /** With no node (or no rule) the most is -1: there is no such thing, so no number is fine. */
    static List<Calls> of(int nodes, int rules) {
        int n = nodes - 1;
        int r = rules - 1;
        return List.of(
            new Calls("type", (x, a) -> x.type(a[0]), 255),
            new Calls("node", (x, a) -> x.node(a[0], a[1]), n, 5),
            new Calls("rule", (x, a) -> x.rule(a[0], a[1]), r, 6),
            new Calls("toggles", (x, a) -> x.toggles(a[0], a[1]), n, 3),
            new Calls("tags", (x, a) -> x.tags(a[0], a[1]), n, 3),
            new Calls("switches", (x, a) -> x.switches(a[0]), r),
            new Calls("value", (x, a) -> x.value(a[0], a[1]), n, 3),
            new Calls("winner", (x, a) -> x.winner(a[0], a[1], a[2]), n, 3, Integer.MAX_VALUE),
            new Calls("source", (x, a) -> x.source(a[0], a[1]), n, 3),
            new Calls("change", (x, a) -> x.change(a[0], a[1], a[2]), n, 3, 1),
            new Calls("wanted", (x, a) -> x.wanted(a[0], a[1], a[2]), n, 3, 9),
            new Calls("sees", (x, a) -> x.sees(a[0], a[1], a[2]), n, 3, 9),
            new Calls("keep", (x, a) -> x.keep(a[0]), 1),
            new Calls("back", (x, a) -> x.back(a[0]), 1),
            new Calls("count", (x, a) -> x.count(a[0]), 6));
    }

    int answer(StyleTree x, int[] numbers) {
        return answer.of(x, numbers);
    }

    boolean takes(int[] numbers) {
        for (int i = 0; i < mosts.length; i++) {
            if (numbers[i] < 0 || numbers[i] > mosts[i]) {
                return false;
            }
        }
        return true;
    }

    String told(int[] numbers) {
        return name + Arrays.toString(numbers);
    }
}
