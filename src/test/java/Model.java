import java.util.ArrayDeque;
import java.util.ArrayList;
import java.util.Comparator;
import java.util.HashSet;
import java.util.List;
import java.util.Objects;
import java.util.Set;
import java.util.regex.Matcher;
import java.util.regex.Pattern;

/**
 * The document once more, written in another way and without regard to speed: tokens against
 * patterns, rows of nodes by trying, snapshots for what can be undone. ModelTest compares the two.
 */
final class Model {
    private static final String COMPOUND = "(?:[a-d](?:\\.[p-s])*|(?:\\.[p-s])+)";
    private static final Pattern ITEMS = Pattern.compile(
        "(?:N\\d?[a-d][p-s]*;|RU?" + COMPOUND + "(?:[>/]" + COMPOUND + "){0,2}:(?:[w-z]\\d!?)+;)*");

    private static final class World {
        List<Integer> parents = new ArrayList<>();
        List<Character> tags = new ArrayList<>();
        List<Set<Character>> classes = new ArrayList<>();
        List<String> rules = new ArrayList<>();
        Set<Integer> off = new HashSet<>();

        World copy() {
            World w = new World();
            w.parents.addAll(parents);
            w.tags.addAll(tags);
            for (Set<Character> c : classes) {
                w.classes.add(new HashSet<>(c));
            }
            w.rules.addAll(rules);
            w.off.addAll(off);
            return w;
        }
    }

    private final StringBuilder text = new StringBuilder();
    private World world = new World();
    private final ArrayDeque<World> past = new ArrayDeque<>();
    private final List<int[]> seen = new ArrayList<>();
    private final World[] images = new World[2];

    int type(int letter) {
        if (letter < 0 || letter > 255) {
            return -2;
        }
        if (text.length() >= 120) {
            return -4;
        }
        return text.append((char) letter).length();
    }

    int clear() {
        int had = text.length();
        text.setLength(0);
        return had;
    }

    // ---- reading

    int page() {
        StringBuilder tokens = new StringBuilder();
        List<Integer> places = new ArrayList<>();
        Matcher m = Pattern.compile("[0-9]+|[^ ]", Pattern.DOTALL).matcher(text);
        while (m.find()) {
            String t = m.group();
            tokens.append(t.length() > 1 ? '?' : t.charAt(0));
            places.add(m.start());
        }
        for (int i = 1; i <= tokens.length(); i++) {
            if (!canBegin(tokens.substring(0, i))) {
                return -10 - places.get(i - 1);
            }
        }
        if (!ITEMS.matcher(tokens).matches()) {
            return -10 - text.length();
        }
        world = build(tokens.toString());
        past.clear();
        seen.clear();
        images[0] = null;
        images[1] = null;
        text.setLength(0);
        return world.parents.size() + world.rules.size();
    }

    private static boolean canBegin(String tokens) {
        Matcher m = ITEMS.matcher(tokens);
        if (!m.matches() && !m.hitEnd()) {
            return false;
        }
        int nodes = 0;
        int rules = 0;
        for (String item : tokens.split(";")) {
            if (item.startsWith("N")) {
                if (!nodeCan(item, nodes)) {
                    return false;
                }
                nodes++;
            }
            if (item.startsWith("R")) {
                if (!ruleCan(item)) {
                    return false;
                }
                rules++;
            }
        }
        return nodes <= 9 && rules <= 8;
    }

    private static boolean nodeCan(String item, int nodes) {
        if (item.length() > 1) {
            boolean number = Character.isDigit(item.charAt(1));
            if (number != (nodes > 0) || number && item.charAt(1) - '0' >= nodes) {
                return false;
            }
        }
        return unlike(item.replaceAll("[^p-s]", ""));
    }

    private static boolean ruleCan(String item) {
        String[] halves = item.split(":");
        for (String compound : halves[0].split("[>/]")) {
            if (!unlike(compound.replaceAll("[^p-s]", ""))) {
                return false;
            }
        }
        return halves.length < 2 || unlike(halves[1].replaceAll("[^w-z]", ""));
    }

    private static boolean unlike(String letters) {
        return letters.chars().distinct().count() == letters.length();
    }

    private static World build(String tokens) {
        World w = new World();
        for (String item : tokens.split(";")) {
            if (item.startsWith("R")) {
                w.rules.add(item.substring(1));
            } else if (item.startsWith("N")) {
                boolean root = w.parents.isEmpty();
                w.parents.add(root ? -9 : item.charAt(1) - '0');
                w.tags.add(item.charAt(root ? 1 : 2));
                w.classes.add(letters(item.substring(root ? 2 : 3)));
            }
        }
        return w;
    }

    private static Set<Character> letters(String s) {
        Set<Character> all = new HashSet<>();
        for (char c : s.toCharArray()) {
            all.add(c);
        }
        return all;
    }

    // ---- matching

    private static String selector(World w, int r) {
        String half = w.rules.get(r).split(":")[0];
        return half.startsWith("U") ? half.substring(1) : half;
    }

    private static boolean isUser(World w, int r) {
        return w.rules.get(r).startsWith("U");
    }

    /** The declaration of a property, as "3" or "3!", or null. */
    private static String declaration(World w, int r, int p) {
        Matcher m = Pattern.compile((char) ('w' + p) + "(\\d!?)").matcher(w.rules.get(r).split(":")[1]);
        return m.find() ? m.group(1) : null;
    }

    private static boolean fits(World w, String compound, int n) {
        for (char c : compound.replace(".", "").toCharArray()) {
            boolean has = c <= 'd' ? w.tags.get(n) == c : w.classes.get(n).contains(c);
            if (!has) {
                return false;
            }
        }
        return true;
    }

    private static boolean matches(World w, int r, int n) {
        return !w.off.contains(r) && matches(w, selector(w, r), n);
    }

    private static boolean matches(World w, String selector, int n) {
        int cut = Math.max(selector.lastIndexOf('>'), selector.lastIndexOf('/'));
        if (!fits(w, selector.substring(cut + 1), n)) {
            return false;
        }
        if (cut < 0) {
            return true;
        }
        String rest = selector.substring(0, cut);
        boolean child = selector.charAt(cut) == '>';
        for (int up = w.parents.get(n); up >= 0; up = w.parents.get(up)) {
            if (matches(w, rest, up)) {
                return true;
            }
            if (child) {
                return false;
            }
        }
        return false;
    }

    private static int specific(World w, int r) {
        String s = selector(w, r);
        return 10 * s.replaceAll("[^p-s]", "").length() + s.replaceAll("[^a-d]", "").length();
    }

    private static boolean isStrong(World w, int r, int p) {
        return declaration(w, r, p).endsWith("!");
    }

    private static List<Integer> winners(World w, int n, int p) {
        List<Integer> all = new ArrayList<>();
        for (int r = 0; r < w.rules.size(); r++) {
            if (matches(w, r, n) && declaration(w, r, p) != null) {
                all.add(r);
            }
        }
        Comparator<Integer> order = Comparator.comparing((Integer r) -> isStrong(w, r, p));
        order = order.thenComparing((Integer r) -> isStrong(w, r, p) == isUser(w, r));
        order = order.thenComparing((Integer r) -> specific(w, r)).thenComparing((Integer r) -> r);
        all.sort(order.reversed());
        return all;
    }

    private static int source(World w, int n, int p) {
        if (!winners(w, n, p).isEmpty()) {
            return n;
        }
        return p < 2 && n > 0 ? source(w, w.parents.get(n), p) : -9;
    }

    private static int value(World w, int n, int p) {
        int from = source(w, n, p);
        return from < 0 ? 0 : declaration(w, winners(w, from, p).get(0), p).charAt(0) - '0';
    }

    private static String style(World w, int n) {
        return "" + value(w, n, 0) + value(w, n, 1) + value(w, n, 2) + value(w, n, 3);
    }

    private static boolean isBelow(World w, int n, int upper) {
        return n > 0 && (w.parents.get(n) == upper || isBelow(w, w.parents.get(n), upper));
    }

    // ---- the calls

    private boolean noNode(int n) {
        return n < 0 || n >= world.parents.size();
    }

    private boolean noRule(int r) {
        return r < 0 || r >= world.rules.size();
    }

    private static int bits(Set<Character> classes) {
        return classes.stream().mapToInt(c -> 1 << (c - 'p')).sum();
    }

    int node(int n, int what) {
        if (noNode(n) || what < 0 || what > 5) {
            return -2;
        }
        int answer = 0;
        switch (what) {
            case 0: return world.parents.get(n);
            case 1: return world.tags.get(n) - 'a';
            case 2: return bits(world.classes.get(n));
            case 3:
                for (int r = 0; r < world.rules.size(); r++) {
                    answer += matches(world, r, n) ? 1 << r : 0;
                }
                return answer;
            case 4:
                while (!style(world, answer).equals(style(world, n))) {
                    answer++;
                }
                return answer;
            default:
                for (int i = 0; i < world.parents.size(); i++) {
                    answer += isBelow(world, i, n) ? 1 << i : 0;
                }
                return answer;
        }
    }

    int rule(int r, int what) {
        if (noRule(r) || what < 0 || what > 6) {
            return -2;
        }
        int answer = 0;
        switch (what) {
            case 0: return isUser(world, r) ? 1 : 0;
            case 1: return selector(world, r).split("[>/]").length;
            case 2: return specific(world, r);
            case 3:
            case 4:
                for (int p = 0; p < 4; p++) {
                    boolean has = declaration(world, r, p) != null && (what == 3 || isStrong(world, r, p));
                    answer += has ? 1 << p : 0;
                }
                return answer;
            case 5: return world.off.contains(r) ? 0 : 1;
            default:
                for (int n = 0; n < world.parents.size(); n++) {
                    answer += matches(world, r, n) ? 1 << n : 0;
                }
                return answer;
        }
    }

    private void remember() {
        past.addLast(world.copy());
        if (past.size() > 10) {
            past.removeFirst();
        }
    }

    private static void toggle(World w, int n, int c) {
        Set<Character> all = w.classes.get(n);
        char letter = (char) ('p' + c);
        if (!all.remove(letter)) {
            all.add(letter);
        }
    }

    private static void flip(World w, int r) {
        if (!w.off.remove(r)) {
            w.off.add(r);
        }
    }

    int toggles(int n, int c) {
        if (noNode(n) || c < 0 || c > 3) {
            return -2;
        }
        remember();
        toggle(world, n, c);
        return bits(world.classes.get(n));
    }

    int tags(int n, int tag) {
        if (noNode(n) || tag < 0 || tag > 3) {
            return -2;
        }
        int old = world.tags.get(n) - 'a';
        if (old == tag) {
            return -3;
        }
        remember();
        world.tags.set(n, (char) ('a' + tag));
        return old;
    }

    int switches(int r) {
        if (noRule(r)) {
            return -2;
        }
        remember();
        flip(world, r);
        return world.off.contains(r) ? 0 : 1;
    }

    int undo() {
        if (past.isEmpty()) {
            return -3;
        }
        world = past.removeLast();
        return past.size();
    }

    private boolean noPlace(int n, int p) {
        return noNode(n) || p < 0 || p > 3;
    }

    int value(int n, int p) {
        return noPlace(n, p) ? -2 : value(world, n, p);
    }

    int winner(int n, int p, int k) {
        if (noPlace(n, p) || k < 0) {
            return -2;
        }
        List<Integer> all = winners(world, n, p);
        return k < all.size() ? all.get(k) : -9;
    }

    int source(int n, int p) {
        return noPlace(n, p) ? -2 : source(world, n, p);
    }

    int change(int n, int c, int what) {
        if (noNode(n) || c < 0 || c > 3 || what < 0 || what > 1) {
            return -2;
        }
        Set<Integer> nodes = new HashSet<>();
        if (what == 0) {
            for (int r = 0; r < world.rules.size(); r++) {
                lookedAt(r, n, c, nodes);
            }
        } else {
            World other = world.copy();
            toggle(other, n, c);
            for (int i = 0; i < world.parents.size(); i++) {
                if (!style(world, i).equals(style(other, i))) {
                    nodes.add(i);
                }
            }
        }
        return nodes.stream().mapToInt(i -> 1 << i).sum();
    }

    private void lookedAt(int r, int n, int c, Set<Integer> nodes) {
        String[] compounds = selector(world, r).split("[>/]");
        for (int k = 0; k < compounds.length; k++) {
            if (world.off.contains(r) || compounds[k].indexOf('p' + c) < 0) {
                continue;
            }
            if (k == compounds.length - 1) {
                nodes.add(n);
            } else {
                for (int i = 0; i < world.parents.size(); i++) {
                    if (isBelow(world, i, n) && fits(world, compounds[compounds.length - 1], i)) {
                        nodes.add(i);
                    }
                }
            }
        }
    }

    int wanted(int n, int p, int value) {
        if (noPlace(n, p) || value < 0 || value > 9) {
            return -2;
        }
        if (value(world, n, p) == value) {
            return -1;
        }
        for (int number = 0; number < 108; number++) {
            World other = world.copy();
            if (number >= 100 && number - 100 < world.rules.size()) {
                flip(other, number - 100);
            } else if (number < 100 && number / 4 < world.parents.size()) {
                toggle(other, number / 4, number % 4);
            } else {
                continue;
            }
            if (value(other, n, p) == value) {
                return number;
            }
        }
        return -9;
    }

    int sees(int n, int p, int value) {
        if (noPlace(n, p) || value < 0 || value > 9) {
            return -2;
        }
        if (seen.size() == 6) {
            return -4;
        }
        seen.add(new int[] {n, p, value});
        return seen.size();
    }

    int forget() {
        int had = seen.size();
        seen.clear();
        return had;
    }

    private List<World> possible() {
        List<World> all = new ArrayList<>();
        for (int r = 0; r < world.rules.size(); r++) {
            World other = world.copy();
            flip(other, r);
            all.add(seen.stream().allMatch(s -> value(other, s[0], s[1]) == s[2]) ? other : null);
        }
        return all;
    }

    int unseen() {
        List<World> all = possible();
        int answer = 0;
        for (int r = 0; r < all.size(); r++) {
            answer += all.get(r) != null ? 1 << r : 0;
        }
        return answer;
    }

    int ask() {
        List<World> all = possible();
        all.removeIf(Objects::isNull);
        int answer = -9;
        if (all.size() < 2) {
            return answer;
        }
        int most = 0;
        for (int n = 0; n < world.parents.size(); n++) {
            for (int p = 0; p < 4; p++) {
                Set<Integer> values = new HashSet<>();
                for (World other : all) {
                    values.add(value(other, n, p));
                }
                if (values.size() > most) {
                    most = values.size();
                    answer = 4 * n + p;
                }
            }
        }
        return answer;
    }

    int keep(int image) {
        if (image < 0 || image > 1) {
            return -2;
        }
        images[image] = world.copy();
        return world.parents.size();
    }

    int back(int image) {
        if (image < 0 || image > 1) {
            return -2;
        }
        if (images[image] == null) {
            return -3;
        }
        world = images[image].copy();
        past.clear();
        return world.parents.size();
    }

    int count(int what) {
        switch (what) {
            case 0: return world.parents.size();
            case 1: return world.rules.size();
            case 2: return (1 << world.rules.size()) - 1 - world.off.stream().mapToInt(r -> 1 << r).sum();
            case 3:
                Set<String> styles = new HashSet<>();
                for (int n = 0; n < world.parents.size(); n++) {
                    styles.add(style(world, n));
                }
                return styles.size();
            case 4: return seen.size();
            case 5: return text.length();
            case 6: return past.size();
            default: return -2;
        }
    }
}
