/**
 * A resolver of styles over a small tree of nodes. What each call answers is told, as numbered
 * promises, in the project's document; the words in capitals there are the plain words here.
 */
public final class StyleTree {
    public static final int BAD = -2, STATE = -3, FULL = -4, NONE = -9;

    private static final int MOST_LETTERS = 120;
    private static final int MOST_NODES = 9;
    private static final int MOST_RULES = 8;
    private static final int MOST_COMPOUNDS = 3;
    private static final int MOST_UNDONE = 10;
    private static final int MOST_SEEN = 6;
    private static final int MOST_IMAGES = 2;
    private static final int LETTER_CODES = 256;
    private static final int TAGS = 4;
    private static final int CLASSES = 4;
    private static final int PROPERTIES = 4;
    /** The properties below this number (w, x) are handed down, the others are not. */
    private static final int HANDED_DOWN = 2;
    private static final int VALUES = 10;
    private static final int NODE_QUESTIONS = 6;
    private static final int RULE_QUESTIONS = 7;
    private static final int CHANGE_QUESTIONS = 2;

    /**
     * Changes are numbered as the document numbers them: 4 times the node and the class, or this
     * and the rule. A tag that is set has numbers of our own, behind those, so that one number is
     * enough to undo any change.
     */
    private static final int FIRST_SWITCH = 100;
    private static final int FIRST_TAGGING = 200;
    private static final int HAS_IT = -1;
    private static final int FAULT_BASE = -10;

    private final char[] letters = new char[MOST_LETTERS];
    private int length = 0;
    private final Reader reader = new Reader();
    private Sheet sheet = new Sheet();
    private final Look look = new Look();
    private final Look trial = new Look();
    private final Styles now = new Styles();
    private final Styles then = new Styles();
    private final History history = new History();
    private final Sightings sightings = new Sightings();
    private final Look[] images = new Look[MOST_IMAGES];
    private int keptImages = 0;
    private final int[] answers = new int[MOST_NODES * PROPERTIES];

    public StyleTree() {
        for (int i = 0; i < MOST_IMAGES; i++) {
            images[i] = new Look();
        }
    }

    // ---- what is told

    public int type(int letter) {
        if (!within(letter, LETTER_CODES)) {
            return BAD;
        }
        if (!within(length, MOST_LETTERS)) {
            return FULL;
        }
        letters[length] = (char) letter;
        length++;
        return length;
    }

    public int clear() {
        int had = length;
        length = 0;
        return had;
    }

    public int page() {
        int items = reader.readAll(letters, length);
        if (items == NONE) {
            return FAULT_BASE - reader.fault();
        }
        sheet = reader.exchange(sheet);
        length = 0;
        look.copyFrom(sheet.told);
        history.empty();
        sightings.empty();
        keptImages = 0;
        refresh();
        return items;
    }

    public int node(int n, int what) {
        if (!within(n, sheet.nodes) || !within(what, NODE_QUESTIONS)) {
            return BAD;
        }
        switch (what) {
            case 0:
                return sheet.parents[n];
            case 1:
                return look.tags[n];
            case 2:
                return look.classes[n];
            case 3:
                return now.rulesOf(n);
            case 4:
                return now.recordOf(n);
            default:
                return sheet.below(n);
        }
    }

    public int rule(int r, int what) {
        if (!within(r, sheet.rules) || !within(what, RULE_QUESTIONS)) {
            return BAD;
        }
        Rule rule = sheet.rows[r];
        switch (what) {
            case 0:
                return rule.user ? 1 : 0;
            case 1:
                return rule.compounds;
            case 2:
                return rule.specific;
            case 3:
                return rule.declared;
            case 4:
                return rule.strong;
            case 5:
                return look.hasOn(r) ? 1 : 0;
            default:
                return now.nodesOf(r);
        }
    }

    // ---- what is done

    public int toggles(int n, int c) {
        if (!within(n, sheet.nodes) || !within(c, CLASSES)) {
            return BAD;
        }
        int toggling = CLASSES * n + c;
        perform(toggling, toggling);
        return look.classes[n];
    }

    public int tags(int n, int tag) {
        if (!within(n, sheet.nodes) || !within(tag, TAGS)) {
            return BAD;
        }
        int old = look.tags[n];
        if (old == tag) {
            return STATE;
        }
        int first = FIRST_TAGGING + TAGS * n;
        perform(first + tag, first + old);
        return old;
    }

    public int switches(int r) {
        if (!within(r, sheet.rules)) {
            return BAD;
        }
        int switching = FIRST_SWITCH + r;
        perform(switching, switching);
        return look.hasOn(r) ? 1 : 0;
    }

    public int undo() {
        int remedy = history.takeLatest();
        if (remedy == NONE) {
            return STATE;
        }
        look.apply(remedy);
        refresh();
        return history.size;
    }

    // ---- styles

    public int value(int n, int p) {
        if (!isPlace(n, p)) {
            return BAD;
        }
        return now.valueAt(n, p);
    }

    public int winner(int n, int p, int k) {
        if (!isPlace(n, p) || k < 0) {
            return BAD;
        }
        int among = now.rulesOf(n);
        int best = sheet.strongest(among, p);
        for (int i = 0; i < Math.min(k, MOST_RULES) && best != NONE; i++) {
            among &= ~(1 << best);
            best = sheet.strongest(among, p);
        }
        return best;
    }

    public int source(int n, int p) {
        if (!isPlace(n, p)) {
            return BAD;
        }
        return now.sourceAt(n, p);
    }

    // ---- changes

    public int change(int n, int c, int what) {
        if (!within(n, sheet.nodes) || !within(c, CLASSES) || !within(what, CHANGE_QUESTIONS)) {
            return BAD;
        }
        if (what == 0) {
            return sheet.lookedAt(look, n, c);
        }
        tryOut(CLASSES * n + c);
        return now.differences(then);
    }

    public int wanted(int n, int p, int value) {
        if (!isPlace(n, p) || !within(value, VALUES)) {
            return BAD;
        }
        if (now.valueAt(n, p) == value) {
            return HAS_IT;
        }
        for (int toggling = 0; toggling < CLASSES * sheet.nodes; toggling++) {
            tryOut(toggling);
            if (then.valueAt(n, p) == value) {
                return toggling;
            }
        }
        for (int r = 0; r < sheet.rules; r++) {
            tryOut(FIRST_SWITCH + r);
            if (then.valueAt(n, p) == value) {
                return FIRST_SWITCH + r;
            }
        }
        return NONE;
    }

    // ---- which rule

    public int sees(int n, int p, int value) {
        if (!isPlace(n, p) || !within(value, VALUES)) {
            return BAD;
        }
        if (!sightings.add(n, p, value)) {
            return FULL;
        }
        return sightings.size;
    }

    public int forget() {
        int had = sightings.size;
        sightings.empty();
        return had;
    }

    public int unseen() {
        int bits = 0;
        for (int r = 0; r < sheet.rules; r++) {
            tryOut(FIRST_SWITCH + r);
            if (sightings.holdIn(then)) {
                bits |= 1 << r;
            }
        }
        return bits;
    }

    public int ask() {
        int suspects = unseen();
        if (Integer.bitCount(suspects) <= 1) {
            return NONE;
        }
        gatherAnswers(suspects);
        int best = NONE;
        // From 0, not 1: rules that no value tells apart are still several, so a place is due.
        int most = 0;
        for (int place = 0; place < PROPERTIES * sheet.nodes; place++) {
            int unlike = Integer.bitCount(answers[place]);
            if (unlike > most) {
                most = unlike;
                best = place;
            }
        }
        return best;
    }

    // ---- images

    public int keep(int image) {
        if (!within(image, MOST_IMAGES)) {
            return BAD;
        }
        images[image].copyFrom(look);
        keptImages |= 1 << image;
        return sheet.nodes;
    }

    public int back(int image) {
        if (!within(image, MOST_IMAGES)) {
            return BAD;
        }
        if (!hasBit(keptImages, image)) {
            return STATE;
        }
        look.copyFrom(images[image]);
        history.empty();
        refresh();
        return sheet.nodes;
    }

    public int count(int what) {
        switch (what) {
            case 0:
                return sheet.nodes;
            case 1:
                return sheet.rules;
            case 2:
                return look.on;
            case 3:
                return now.unlikeStyles();
            case 4:
                return sightings.size;
            case 5:
                return length;
            case 6:
                return history.size;
            default:
                return BAD;
        }
    }

    // ---- what the calls share

    private static boolean within(int number, int bound) {
        return number >= 0 && number < bound;
    }

    private static boolean hasBit(int bits, int number) {
        return (bits >> number & 1) == 1;
    }

    private boolean isPlace(int n, int p) {
        return within(n, sheet.nodes) && within(p, PROPERTIES);
    }

    private void refresh() {
        now.resolve(sheet, look);
    }

    private void perform(int change, int remedy) {
        look.apply(change);
        history.add(remedy);
        refresh();
    }

    private void tryOut(int change) {
        trial.copyFrom(look);
        trial.apply(change);
        then.resolve(sheet, trial);
    }

    /** Puts, for each place, the values (bits) that it has by one or another of the rules. */
    private void gatherAnswers(int rules) {
        for (int place = 0; place < answers.length; place++) {
            answers[place] = 0;
        }
        for (int r = 0; r < sheet.rules; r++) {
            if (hasBit(rules, r)) {
                tryOut(FIRST_SWITCH + r);
                addAnswers();
            }
        }
    }

    private void addAnswers() {
        for (int n = 0; n < sheet.nodes; n++) {
            for (int p = 0; p < PROPERTIES; p++) {
                answers[PROPERTIES * n + p] |= 1 << then.valueAt(n, p);
            }
        }
    }

    /** One rule: its selector, its declarations, and how heavy each of these is. */
    private static final class Rule {
        boolean user;
        int compounds;
        int specific;
        int declared;
        int strong;
        final int[] tags = new int[MOST_COMPOUNDS];
        final int[] classes = new int[MOST_COMPOUNDS];
        final boolean[] isChild = new boolean[MOST_COMPOUNDS];
        final int[] values = new int[PROPERTIES];
        /** Orders declarations of one property; of two that are even the later rule's is higher. */
        final int[] weights = new int[PROPERTIES];

        void begin(boolean ofUser) {
            user = ofUser;
            compounds = 0;
            specific = 0;
            declared = 0;
            strong = 0;
        }

        void addCompound(int tag, int classBits, boolean child) {
            if (within(compounds, MOST_COMPOUNDS)) {
                tags[compounds] = tag;
                classes[compounds] = classBits;
                isChild[compounds] = child;
                compounds++;
                specific += 10 * Integer.bitCount(classBits) + (tag == NONE ? 0 : 1);
            }
        }

        void declare(int p, int value, boolean isStrong) {
            if (within(p, PROPERTIES)) {
                values[p] = value;
                declared |= 1 << p;
                strong |= isStrong ? 1 << p : 0;
                // Three compounds with all classes and a tag make 123, so a level outweighs them.
                weights[p] = 1000 * level(isStrong) + specific;
            }
        }

        private int level(boolean isStrong) {
            if (isStrong) {
                return user ? 3 : 2;
            }
            return user ? 0 : 1;
        }

        boolean fits(int compound, int tag, int classBits) {
            if (compound < 0 || compound >= compounds) {
                return false;
            }
            boolean tagFits = tags[compound] == NONE || tags[compound] == tag;
            return tagFits && (classes[compound] & ~classBits) == 0;
        }
    }

    /** What can change behind the reading: tags, classes, which rules are on. */
    private static final class Look {
        final int[] tags = new int[MOST_NODES];
        final int[] classes = new int[MOST_NODES];
        int on = 0;

        void copyFrom(Look other) {
            System.arraycopy(other.tags, 0, tags, 0, MOST_NODES);
            System.arraycopy(other.classes, 0, classes, 0, MOST_NODES);
            on = other.on;
        }

        boolean hasOn(int r) {
            return hasBit(on, r);
        }

        void apply(int change) {
            if (change >= FIRST_TAGGING) {
                putTag((change - FIRST_TAGGING) / TAGS, (change - FIRST_TAGGING) % TAGS);
            } else if (change >= FIRST_SWITCH) {
                on ^= 1 << (change - FIRST_SWITCH);
            } else {
                flipClass(change / CLASSES, change % CLASSES);
            }
        }

        private void putTag(int n, int tag) {
            if (within(n, MOST_NODES)) {
                tags[n] = tag;
            }
        }

        private void flipClass(int n, int c) {
            if (within(n, MOST_NODES)) {
                classes[n] ^= 1 << c;
            }
        }
    }

    /** What a text told: the tree, the rules, and the look that all begins with. */
    private static final class Sheet {
        int nodes = 0;
        int rules = 0;
        final int[] parents = new int[MOST_NODES];
        final int[] above = new int[MOST_NODES];
        final Look told = new Look();
        final Rule[] rows = new Rule[MOST_RULES];

        Sheet() {
            for (int r = 0; r < MOST_RULES; r++) {
                rows[r] = new Rule();
            }
        }

        void empty() {
            nodes = 0;
            rules = 0;
            told.on = 0;
        }

        void addNode(int parent, int tag, int classBits) {
            if (within(nodes, MOST_NODES)) {
                parents[nodes] = parent;
                above[nodes] = within(parent, nodes) ? above[parent] | 1 << parent : 0;
                told.tags[nodes] = tag;
                told.classes[nodes] = classBits;
                nodes++;
            }
        }

        /** Counts the row in that the reader has filled. */
        void addRule() {
            if (within(rules, MOST_RULES)) {
                told.on |= 1 << rules;
                rules++;
            }
        }

        int below(int n) {
            int bits = 0;
            for (int i = 0; i < nodes; i++) {
                if (hasBit(above[i], n)) {
                    bits |= 1 << i;
                }
            }
            return bits;
        }

        int fitted(Look look, Rule rule, int compound) {
            int bits = 0;
            for (int n = 0; n < nodes; n++) {
                if (rule.fits(compound, look.tags[n], look.classes[n])) {
                    bits |= 1 << n;
                }
            }
            return bits;
        }

        /**
         * The nodes that a rule's selector reaches. It keeps all nodes where a row of fitting
         * nodes may stand so far, so no row is missed and none is tried twice.
         */
        int reached(Look look, Rule rule) {
            int bits = fitted(look, rule, 0);
            for (int k = 1; k < rule.compounds; k++) {
                bits = fitted(look, rule, k) & under(bits, rule.isChild[k]);
            }
            return bits;
        }

        private int under(int uppers, boolean child) {
            int bits = 0;
            for (int n = 0; n < nodes; n++) {
                int candidates = above[n];
                if (child) {
                    candidates = within(parents[n], nodes) ? 1 << parents[n] : 0;
                }
                if ((candidates & uppers) != 0) {
                    bits |= 1 << n;
                }
            }
            return bits;
        }

        /** Of some rules (bits) the one whose declaration of a property is highest. */
        int strongest(int among, int p) {
            int best = NONE;
            int most = 0;
            for (int r = 0; r < rules; r++) {
                if (hasBit(among, r) && hasBit(rows[r].declared, p)) {
                    int weight = rows[r].weights[p];
                    // Even weights too: the later rule is above the earlier one.
                    if (weight >= most) {
                        most = weight;
                        best = r;
                    }
                }
            }
            return best;
        }

        int lookedAt(Look look, int n, int c) {
            int bits = 0;
            for (int r = 0; r < rules; r++) {
                if (look.hasOn(r)) {
                    bits |= lookedAtBy(look, rows[r], n, c);
                }
            }
            return bits;
        }

        private int lookedAtBy(Look look, Rule rule, int n, int c) {
            int last = rule.compounds - 1;
            int bits = 0;
            for (int k = 0; k <= last; k++) {
                if (hasBit(rule.classes[k], c)) {
                    bits |= k == last ? 1 << n : below(n) & fitted(look, rule, last);
                }
            }
            return bits;
        }
    }

    /** The styles of all nodes by one look at a sheet, and what matches in it. */
    private static final class Styles {
        private int nodes = 0;
        private final int[] nodesOfRule = new int[MOST_RULES];
        private final int[] rulesOfNode = new int[MOST_NODES];
        private final int[] values = new int[MOST_NODES * PROPERTIES];
        private final int[] sources = new int[MOST_NODES * PROPERTIES];

        void resolve(Sheet sheet, Look look) {
            nodes = sheet.nodes;
            for (int n = 0; n < nodes; n++) {
                rulesOfNode[n] = 0;
            }
            for (int r = 0; r < sheet.rules; r++) {
                nodesOfRule[r] = look.hasOn(r) ? sheet.reached(look, sheet.rows[r]) : 0;
                noteRule(r);
            }
            // A parent is told ahead of its children, so its values stand when they are needed.
            for (int n = 0; n < nodes; n++) {
                for (int p = 0; p < PROPERTIES; p++) {
                    settle(sheet, n, p);
                }
            }
        }

        private void noteRule(int r) {
            for (int n = 0; n < nodes; n++) {
                if (hasBit(nodesOfRule[r], n)) {
                    rulesOfNode[n] |= 1 << r;
                }
            }
        }

        private void settle(Sheet sheet, int n, int p) {
            int place = PROPERTIES * n + p;
            int best = sheet.strongest(rulesOfNode[n], p);
            int parent = sheet.parents[n];
            if (within(best, sheet.rules)) {
                values[place] = sheet.rows[best].values[p];
                sources[place] = n;
            } else if (p < HANDED_DOWN && within(parent, n)) {
                values[place] = values[PROPERTIES * parent + p];
                sources[place] = sources[PROPERTIES * parent + p];
            } else {
                values[place] = 0;
                sources[place] = NONE;
            }
        }

        int nodesOf(int r) {
            return within(r, MOST_RULES) ? nodesOfRule[r] : 0;
        }

        int rulesOf(int n) {
            return within(n, nodes) ? rulesOfNode[n] : 0;
        }

        int valueAt(int n, int p) {
            return within(n, nodes) && within(p, PROPERTIES) ? values[PROPERTIES * n + p] : 0;
        }

        int sourceAt(int n, int p) {
            return within(n, nodes) && within(p, PROPERTIES) ? sources[PROPERTIES * n + p] : NONE;
        }

        /** A number that two nodes share just if their styles are the same. */
        private int styleOf(int n) {
            int number = 0;
            for (int p = 0; p < PROPERTIES; p++) {
                number = VALUES * number + valueAt(n, p);
            }
            return number;
        }

        int recordOf(int n) {
            int style = styleOf(n);
            for (int i = 0; i < n; i++) {
                if (styleOf(i) == style) {
                    return i;
                }
            }
            return n;
        }

        int unlikeStyles() {
            int unlike = 0;
            for (int n = 0; n < nodes; n++) {
                if (recordOf(n) == n) {
                    unlike++;
                }
            }
            return unlike;
        }

        int differences(Styles other) {
            int bits = 0;
            for (int n = 0; n < nodes; n++) {
                if (styleOf(n) != other.styleOf(n)) {
                    bits |= 1 << n;
                }
            }
            return bits;
        }
    }

    /** The changes that take back what was done, the latest one last. */
    private static final class History {
        private final int[] remedies = new int[MOST_UNDONE];
        int size = 0;

        void empty() {
            size = 0;
        }

        void add(int remedy) {
            if (size == MOST_UNDONE) {
                System.arraycopy(remedies, 1, remedies, 0, MOST_UNDONE - 1);
                size--;
            }
            if (within(size, MOST_UNDONE)) {
                remedies[size] = remedy;
                size++;
            }
        }

        int takeLatest() {
            if (!within(size - 1, MOST_UNDONE)) {
                return NONE;
            }
            size--;
            return remedies[size];
        }
    }

    /** What was seen: at which node and property which value. */
    private static final class Sightings {
        private final int[] nodes = new int[MOST_SEEN];
        private final int[] properties = new int[MOST_SEEN];
        private final int[] values = new int[MOST_SEEN];
        int size = 0;

        void empty() {
            size = 0;
        }

        boolean add(int n, int p, int value) {
            if (!within(size, MOST_SEEN)) {
                return false;
            }
            nodes[size] = n;
            properties[size] = p;
            values[size] = value;
            size++;
            return true;
        }

        boolean holdIn(Styles styles) {
            for (int i = 0; i < size; i++) {
                if (styles.valueAt(nodes[i], properties[i]) != values[i]) {
                    return false;
                }
            }
            return true;
        }
    }

    /**
     * Reads a text into a sheet. Each of its parts answers whether it could be read; if not, the
     * token that is at hand is the one that can't stand there.
     */
    private static final class Reader {
        private static final int END = -1;
        private static final int WRONG_NUMBER = -2;

        private char[] letters = new char[0];
        private int length = 0;
        private int next = 0;
        private int start = 0;
        private int token = END;
        private Sheet sheet = new Sheet();

        /** How many items the text has; NONE, if it has a fault. */
        int readAll(char[] text, int textLength) {
            letters = text;
            length = Math.min(textLength, text.length);
            next = 0;
            sheet.empty();
            advance();
            for (int items = 0; items <= length; items++) {
                if (token == END) {
                    return items;
                }
                boolean isRead = token == 'N' ? readNode() : readRule();
                if (!isRead) {
                    return NONE;
                }
            }
            return NONE;
        }

        /** Gives the sheet that was read, and takes one whose rows the next text may use. */
        Sheet exchange(Sheet old) {
            Sheet read = sheet;
            sheet = old;
            return read;
        }

        int fault() {
            return start;
        }

        private void advance() {
            while (next < length && letters[next] == ' ') {
                next++;
            }
            start = next;
            if (next >= length) {
                token = END;
                return;
            }
            token = letters[next];
            next++;
            // No number of two digits may stand anywhere: it is above 9, or a 0 is ahead.
            while (next < length && isDigitAt(start) && isDigitAt(next)) {
                token = WRONG_NUMBER;
                next++;
            }
        }

        private boolean isDigitAt(int place) {
            return place < length && letters[place] >= '0' && letters[place] <= '9';
        }

        private boolean isDigit() {
            return token >= '0' && token <= '9';
        }

        private boolean isTag() {
            return token >= 'a' && token <= 'd';
        }

        private boolean isClass() {
            return token >= 'p' && token <= 's';
        }

        private boolean isProperty() {
            return token >= 'w' && token <= 'z';
        }

        private boolean isJoint() {
            return token == '>' || token == '/';
        }

        private boolean take(int sign) {
            if (token != sign) {
                return false;
            }
            advance();
            return true;
        }

        private boolean readNode() {
            if (token != 'N' || sheet.nodes >= MOST_NODES) {
                return false;
            }
            advance();
            int parent = NONE;
            if (sheet.nodes > 0) {
                parent = token - '0';
                if (!isDigit() || parent >= sheet.nodes) {
                    return false;
                }
                advance();
            }
            if (!isTag()) {
                return false;
            }
            int tag = token - 'a';
            advance();
            int classBits = 0;
            for (int i = 0; i < CLASSES && isClass(); i++) {
                int bit = 1 << (token - 'p');
                if ((classBits & bit) != 0) {
                    return false;
                }
                classBits |= bit;
                advance();
            }
            if (!take(';')) {
                return false;
            }
            sheet.addNode(parent, tag, classBits);
            return true;
        }

        private boolean readRule() {
            if (token != 'R' || !within(sheet.rules, MOST_RULES)) {
                return false;
            }
            Rule rule = sheet.rows[sheet.rules];
            advance();
            rule.begin(take('U'));
            if (!readSelector(rule) || !take(':') || !readDeclarations(rule) || !take(';')) {
                return false;
            }
            sheet.addRule();
            return true;
        }

        private boolean readSelector(Rule rule) {
            if (!readCompound(rule, false)) {
                return false;
            }
            for (int i = 1; i < MOST_COMPOUNDS && isJoint(); i++) {
                boolean child = token == '>';
                advance();
                if (!readCompound(rule, child)) {
                    return false;
                }
            }
            return true;
        }

        private boolean readCompound(Rule rule, boolean child) {
            int tag = NONE;
            if (isTag()) {
                tag = token - 'a';
                advance();
            } else if (token != '.') {
                return false;
            }
            int classBits = 0;
            // The point ahead of a class told again can still stand, so one round more than classes.
            for (int i = 0; i <= CLASSES && token == '.'; i++) {
                advance();
                int bit = isClass() ? 1 << (token - 'p') : 0;
                if (bit == 0 || (classBits & bit) != 0) {
                    return false;
                }
                classBits |= bit;
                advance();
            }
            rule.addCompound(tag, classBits, child);
            return true;
        }

        private boolean readDeclarations(Rule rule) {
            if (!readDeclaration(rule)) {
                return false;
            }
            for (int i = 1; i < PROPERTIES && isProperty(); i++) {
                if (!readDeclaration(rule)) {
                    return false;
                }
            }
            return true;
        }

        private boolean readDeclaration(Rule rule) {
            int p = token - 'w';
            if (!isProperty() || hasBit(rule.declared, p)) {
                return false;
            }
            advance();
            if (!isDigit()) {
                return false;
            }
            int value = token - '0';
            advance();
            rule.declare(p, value, take('!'));
            return true;
        }
    }
}
