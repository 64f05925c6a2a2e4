import java.util.ArrayList;
import java.util.List;

/**
 * Grammars of four rules that are typed as text and matched against a text: choices are ordered,
 * what is looked ahead for takes nothing, and what is matched in braces is captured.
 */
public final class GrammarMachine {
    private static final int RULES = 4;
    private static final int LINE_LIMIT = 20;
    private static final int TEXT_LIMIT = 9;
    private static final int PLACES = TEXT_LIMIT + 1;
    private static final int CAPTURES_KEPT = 40;
    private static final int BRACKETS_DEEP = 6;
    private static final int FAILED = -1;
    private static final int NONE = -1;

    private final char[] lineRow = new char[LINE_LIMIT];
    private final char[] textRow = new char[TEXT_LIMIT];
    private final Reader reader = new Reader();
    private final Grammar grammar = new Grammar();
    private final Chart chart = new Chart();
    private int lineLength = 0;
    private int textLength = 0;
    private int latestRow = NONE;

    public GrammarMachine() {
    }

    public boolean type(int four) throws IllegalArgumentException {
        int longer = lengthWith(lineRow, lineLength, four);
        if (longer == NONE) {
            return false;
        }
        lineLength = longer;
        return true;
    }

    public int define() throws IllegalArgumentException {
        int length = lineLength;
        // Emptied before it is read: a line that defines nothing is gone too.
        lineLength = 0;
        Pattern pattern = reader.readLine(lineRow, length);
        int rule = lineRow[0] - 'A';
        grammar.put(rule, pattern, lineRow, length);
        return rule;
    }

    public boolean drop(int rule) throws IndexOutOfBoundsException {
        refuseUnlessRule(rule);
        return grammar.remove(rule);
    }

    public char shown(int rule, int k) {
        return isRule(rule) ? grammar.lineCharacter(rule, k) : 0;
    }

    public boolean text(int four) throws IllegalArgumentException {
        int longer = lengthWith(textRow, textLength, four);
        if (longer == NONE) {
            return false;
        }
        textLength = longer;
        return true;
    }

    public int clear() {
        int had = textLength;
        textLength = 0;
        return had;
    }

    public int check(int rule) throws IndexOutOfBoundsException {
        refuseUnlessRule(rule);
        return grammar.fault(rule);
    }

    public int match(int rule, int place) throws IndexOutOfBoundsException, IllegalStateException {
        refuseUnlessRule(rule);
        if (place < 0 || place > textLength) {
            throw new IndexOutOfBoundsException();
        }
        refuseUnlessSound(rule);
        chart.fill(grammar, textRow, textLength, place);
        latestRow = Chart.rowOf(rule, place);
        return chart.endOf(latestRow);
    }

    public int find(int rule) throws IndexOutOfBoundsException, IllegalStateException {
        refuseUnlessRule(rule);
        refuseUnlessSound(rule);
        chart.fill(grammar, textRow, textLength, 0);
        for (int place = 0; place <= textLength; place++) {
            latestRow = Chart.rowOf(rule, place);
            if (chart.endOf(latestRow) != FAILED) {
                return place;
            }
        }
        return FAILED;
    }

    public int captures() {
        return latestRow == NONE ? 0 : chart.keptIn(latestRow);
    }

    public int capture(int i, int what) throws IndexOutOfBoundsException {
        if (i < 0 || i >= captures() || what < 0 || what > 1) {
            throw new IndexOutOfBoundsException();
        }
        return what == 0 ? chart.captureBegin(latestRow, i) : chart.captureEnd(latestRow, i);
    }

    public int farthest() {
        return latestRow == NONE ? NONE : chart.farthestOf(latestRow);
    }

    public int tried() {
        return latestRow == NONE ? 0 : chart.pairsOf(latestRow);
    }

    private static boolean isRule(int rule) {
        return rule >= 0 && rule < RULES;
    }

    private static void refuseUnlessRule(int rule) {
        if (!isRule(rule)) {
            throw new IndexOutOfBoundsException();
        }
    }

    private void refuseUnlessSound(int rule) {
        if (grammar.fault(rule) != 0) {
            throw new IllegalStateException();
        }
    }

    /** Puts the characters of four behind the length that a row has: its new length, NONE when they have no room. */
    private static int lengthWith(char[] row, int length, int four) {
        int count = charactersIn(four);
        if (length + count > row.length) {
            return NONE;
        }
        for (int i = 0; i < count; i++) {
            row[length + i] = byteOf(four, i);
        }
        return length + count;
    }

    private static int charactersIn(int four) {
        int count = 0;
        while (count < 4 && byteOf(four, count) != 0) {
            char c = byteOf(four, count);
            if (c < 32 || c > 126) {
                throw new IllegalArgumentException();
            }
            count++;
        }
        return count;
    }

    private static char byteOf(int four, int i) {
        return (char) ((four >>> (8 * i)) & 255);
    }

    /** Reads a line as the document's grammar of lines asks; whatever does not fit is refused. */
    private static final class Reader {
        private final char[] row = new char[LINE_LIMIT];
        private int length = 0;
        private int at = 0;

        /** The pattern of a line that defines the rule which its first character names. */
        Pattern readLine(char[] line, int lineLength) {
            System.arraycopy(line, 0, row, 0, lineLength);
            length = lineLength;
            at = 0;
            if (!isName(next())) {
                throw new IllegalArgumentException();
            }
            at++;
            pass('=');
            Pattern pattern = readChoice(0);
            if (at < length) {
                throw new IllegalArgumentException();
            }
            return pattern;
        }

        private Pattern readChoice(int depth) {
            Pattern first = readSequence(depth);
            if (next() != '/') {
                return first;
            }
            Choice choice = new Choice();
            choice.add(first);
            for (int i = 0; i < LINE_LIMIT && passes('/'); i++) {
                choice.add(readSequence(depth));
            }
            return choice;
        }

        private Pattern readSequence(int depth) {
            Pattern first = readItem(depth);
            if (endsSequence(next())) {
                return first;
            }
            Sequence sequence = new Sequence();
            sequence.add(first);
            for (int i = 0; i < LINE_LIMIT && !endsSequence(next()); i++) {
                sequence.add(readItem(depth));
            }
            return sequence;
        }

        private Pattern readItem(int depth) {
            boolean looks = false;
            boolean wanted = true;
            // Looking ahead within a look-ahead takes and captures no more: only how often it turns round counts.
            for (; at < length && (row[at] == '&' || row[at] == '!'); at++) {
                looks = true;
                wanted = wanted == (row[at] == '&');
            }
            Pattern piece = readPiece(depth);
            return looks ? new Look(piece, wanted) : piece;
        }

        private Pattern readPiece(int depth) {
            Pattern atom = readAtom(depth);
            if (passes('*')) {
                return new Repeat(atom, 0, PLACES);
            }
            if (passes('+')) {
                return new Repeat(atom, 1, PLACES);
            }
            if (passes('?')) {
                return new Repeat(atom, 0, 1);
            }
            return atom;
        }

        private Pattern readAtom(int depth) {
            char c = next();
            if (c == '(' || c == '{') {
                return readBracket(depth);
            }
            if (c == '[') {
                return readRange();
            }
            if (!isPlain(c) && !isName(c) && c != '.') {
                throw new IllegalArgumentException();
            }
            at++;
            if (c == '.') {
                return new Single((char) 0, (char) 255);
            }
            return isName(c) ? new Name(c - 'A') : new Single(c, c);
        }

        private Pattern readBracket(int depth) {
            if (depth >= BRACKETS_DEEP) {
                throw new IllegalArgumentException();
            }
            if (passes('(')) {
                Pattern inside = readChoice(depth + 1);
                pass(')');
                return inside;
            }
            pass('{');
            if (passes('}')) {
                return new Capture(null);
            }
            Pattern inside = readChoice(depth + 1);
            pass('}');
            return new Capture(inside);
        }

        private Pattern readRange() {
            pass('[');
            char low = readPlain();
            pass('-');
            char high = readPlain();
            pass(']');
            return new Single(low, high);
        }

        private char readPlain() {
            char c = next();
            if (!isPlain(c)) {
                throw new IllegalArgumentException();
            }
            at++;
            return c;
        }

        private void pass(char c) {
            if (!passes(c)) {
                throw new IllegalArgumentException();
            }
        }

        private boolean passes(char c) {
            if (next() != c) {
                return false;
            }
            at++;
            return true;
        }

        /** The character that comes next; 0, which no line holds, at the end. */
        private char next() {
            return at < length ? row[at] : 0;
        }

        private static boolean isName(char c) {
            return c >= 'A' && c < 'A' + RULES;
        }

        private static boolean isPlain(char c) {
            return (c >= 'a' && c <= 'z') || (c >= '0' && c <= '9');
        }

        private static boolean endsSequence(char c) {
            return c == 0 || c == '/' || c == ')' || c == '}';
        }
    }

    /** The rules that are defined, and what is found when one is checked. Sets of rules are bits of an int. */
    private static final class Grammar {
        private final Pattern[] patterns = new Pattern[RULES];
        /** LINE_LIMIT characters for each rule, 0 where its line has none. */
        private final char[] lines = new char[RULES * LINE_LIMIT];
        /** Rules of the grammar checked last, each behind all those that it starts with. */
        private final int[] arranged = new int[RULES];
        private int arrangedCount = 0;

        void put(int rule, Pattern pattern, char[] line, int length) {
            remove(rule);
            patterns[rule] = pattern;
            System.arraycopy(line, 0, lines, rule * LINE_LIMIT, length);
        }

        boolean remove(int rule) {
            boolean was = patterns[rule] != null;
            patterns[rule] = null;
            for (int k = 0; k < LINE_LIMIT; k++) {
                lines[rule * LINE_LIMIT + k] = 0;
            }
            return was;
        }

        char lineCharacter(int rule, int k) {
            return k >= 0 && k < LINE_LIMIT ? lines[rule * LINE_LIMIT + k] : 0;
        }

        /** What checking a rule answers; when that is 0, the rules that it needs stand arranged for matching. */
        int fault(int rule) {
            int needed = neededBy(rule);
            if (!allDefined(needed)) {
                return 1;
            }
            int empties = emptyableRules();
            // Rules can be arranged unless some of them start with one another in a circle.
            if (!arrange(needed, empties)) {
                return 2;
            }
            return someGoesRound(needed, empties) ? 3 : 0;
        }

        /** The rule itself and all that it uses. */
        private int neededBy(int rule) {
            int needed = 1 << rule;
            for (int round = 0; round < RULES; round++) {
                for (int other = 0; other < RULES; other++) {
                    if (has(needed, other)) {
                        needed |= namesIn(other);
                    }
                }
            }
            return needed;
        }

        /** Capitals stand for nothing but names in a line, and the first is that of the rule itself. */
        private int namesIn(int rule) {
            int names = 0;
            for (int k = 1; k < LINE_LIMIT; k++) {
                char c = lines[rule * LINE_LIMIT + k];
                if (c >= 'A' && c < 'A' + RULES) {
                    names |= 1 << (c - 'A');
                }
            }
            return names;
        }

        private boolean allDefined(int needed) {
            for (int rule = 0; rule < RULES; rule++) {
                if (has(needed, rule) && patterns[rule] == null) {
                    return false;
                }
            }
            return true;
        }

        /** A round can find rules only by those of the rounds before, so as many rounds as rules find all. */
        private int emptyableRules() {
            int empties = 0;
            for (int round = 0; round < RULES; round++) {
                for (int rule = 0; rule < RULES; rule++) {
                    Pattern pattern = patterns[rule];
                    if (pattern != null && pattern.emptyable(empties)) {
                        empties |= 1 << rule;
                    }
                }
            }
            return empties;
        }

        private boolean arrange(int needed, int empties) {
            int left = needed;
            arrangedCount = 0;
            for (int round = 0; round < RULES; round++) {
                for (int rule = 0; rule < RULES; rule++) {
                    Pattern pattern = patterns[rule];
                    if (has(left, rule) && pattern != null && (pattern.starts(empties) & left) == 0) {
                        arranged[arrangedCount] = rule;
                        arrangedCount++;
                        left &= ~(1 << rule);
                    }
                }
            }
            return left == 0;
        }

        private boolean someGoesRound(int needed, int empties) {
            for (int rule = 0; rule < RULES; rule++) {
                Pattern pattern = patterns[rule];
                if (has(needed, rule) && pattern != null && pattern.goesRound(empties)) {
                    return true;
                }
            }
            return false;
        }

        private static boolean has(int rules, int rule) {
            return (rules >> rule & 1) != 0;
        }
    }

    /**
     * How the rules match at the places of a text: a row for each pair of a rule and a place. It is filled from the
     * end of the text, and at each place in the order in which the rules are arranged. So a row that is asked for
     * while another one is filled is ready, no pair is matched twice, and rules need not call one another.
     */
    private static final class Chart {
        private static final int ROWS = RULES * PLACES;

        private final char[] characters = new char[TEXT_LIMIT];
        private int length = 0;
        /** The row that is being filled. */
        private int row = 0;
        private final int[] ends = new int[ROWS];
        private final int[] farthestFailures = new int[ROWS];
        /** For each row the rows that its match went through, as bits. */
        private final long[] reached = new long[ROWS];
        private final int[] kept = new int[ROWS];
        private final int[] captureBegins = new int[ROWS * CAPTURES_KEPT];
        private final int[] captureEnds = new int[ROWS * CAPTURES_KEPT];

        /** Fills the rows of the rules that the grammar has arranged, at the places from first on. */
        void fill(Grammar grammar, char[] text, int textLength, int first) {
            System.arraycopy(text, 0, characters, 0, textLength);
            length = textLength;
            for (int place = length; place >= first; place--) {
                for (int i = 0; i < grammar.arrangedCount; i++) {
                    int rule = grammar.arranged[i];
                    Pattern pattern = grammar.patterns[rule];
                    if (pattern != null) {
                        fillRow(rowOf(rule, place), pattern, place);
                    }
                }
            }
        }

        private void fillRow(int filled, Pattern pattern, int place) {
            row = filled;
            kept[row] = 0;
            farthestFailures[row] = NONE;
            reached[row] = 1L << row;
            ends[row] = pattern.endFrom(place, this);
            if (ends[row] == FAILED) {
                kept[row] = 0;
            }
        }

        static int rowOf(int rule, int place) {
            return rule * PLACES + place;
        }

        int endOf(int asked) {
            return ends[asked];
        }

        int farthestOf(int asked) {
            return farthestFailures[asked];
        }

        int pairsOf(int asked) {
            return Long.bitCount(reached[asked]);
        }

        int keptIn(int asked) {
            return kept[asked];
        }

        int captureBegin(int asked, int i) {
            return captureBegins[asked * CAPTURES_KEPT + i];
        }

        int captureEnd(int asked, int i) {
            return captureEnds[asked * CAPTURES_KEPT + i];
        }

        /** Tries a place for a character of low .. high. */
        int tryPlace(int place, char low, char high) {
            if (place < length && characters[place] >= low && characters[place] <= high) {
                return place + 1;
            }
            farthestFailures[row] = Math.max(farthestFailures[row], place);
            return FAILED;
        }

        /** Matches a rule at a place by taking over what its row holds. */
        int follow(int rule, int place) {
            int other = rowOf(rule, place);
            reached[row] |= reached[other];
            farthestFailures[row] = Math.max(farthestFailures[row], farthestFailures[other]);
            for (int i = 0; i < kept[other]; i++) {
                int slot = openCapture(captureBegin(other, i));
                closeCapture(slot, captureEnd(other, i));
            }
            return ends[other];
        }

        /** The slot of a capture that begins; NONE when as many as are kept began before. */
        int openCapture(int place) {
            int slot = kept[row];
            if (slot >= CAPTURES_KEPT) {
                return NONE;
            }
            captureBegins[row * CAPTURES_KEPT + slot] = place;
            kept[row] = slot + 1;
            return slot;
        }

        void closeCapture(int slot, int place) {
            if (slot != NONE) {
                captureEnds[row * CAPTURES_KEPT + slot] = place;
            }
        }

        int captureCount() {
            return kept[row];
        }

        /** Takes back the captures that were begun after there were count of them. */
        void takeBackTo(int count) {
            kept[row] = count;
        }
    }

    /** A part of a rule's pattern. What fails may leave captures behind: whoever goes on after it takes them back. */
    private abstract static class Pattern {
        /** Where it ends when it is matched at a place, or FAILED. */
        abstract int endFrom(int place, Chart chart);

        /** Whether it is empty-able when, of all rules, these are. */
        abstract boolean emptyable(int empties);

        /** The rules that it starts with when these are the empty-able ones. */
        abstract int starts(int empties);

        /** Whether something empty-able is repeated in it. */
        abstract boolean goesRound(int empties);
    }

    /** A letter, a digit, a dot or [x-y]: one character from a range of codes. */
    private static final class Single extends Pattern {
        private final char low;
        private final char high;

        Single(char low, char high) {
            this.low = low;
            this.high = high;
        }

        @Override
        int endFrom(int place, Chart chart) {
            return chart.tryPlace(place, low, high);
        }

        @Override
        boolean emptyable(int empties) {
            return false;
        }

        @Override
        int starts(int empties) {
            return 0;
        }

        @Override
        boolean goesRound(int empties) {
            return false;
        }
    }

    private static final class Name extends Pattern {
        private final int rule;

        Name(int rule) {
            this.rule = rule;
        }

        @Override
        int endFrom(int place, Chart chart) {
            return chart.follow(rule, place);
        }

        @Override
        boolean emptyable(int empties) {
            return Grammar.has(empties, rule);
        }

        @Override
        int starts(int empties) {
            return 1 << rule;
        }

        @Override
        boolean goesRound(int empties) {
            return false;
        }
    }

    /** Braces; inside is null when nothing is between them. */
    private static final class Capture extends Pattern {
        private final Pattern inside;

        Capture(Pattern inside) {
            this.inside = inside;
        }

        @Override
        int endFrom(int place, Chart chart) {
            int slot = chart.openCapture(place);
            int end = inside == null ? place : inside.endFrom(place, chart);
            chart.closeCapture(slot, end);
            return end;
        }

        @Override
        boolean emptyable(int empties) {
            return inside == null || inside.emptyable(empties);
        }

        @Override
        int starts(int empties) {
            return inside == null ? 0 : inside.starts(empties);
        }

        @Override
        boolean goesRound(int empties) {
            return inside != null && inside.goesRound(empties);
        }
    }

    /** An atom with * + or ? behind it: at least so many turns, and at most so many. */
    private static final class Repeat extends Pattern {
        private final Pattern part;
        private final int least;
        private final int most;

        Repeat(Pattern part, int least, int most) {
            this.part = part;
            this.least = least;
            this.most = most;
        }

        @Override
        int endFrom(int place, Chart chart) {
            int at = place;
            // Each turn but the last takes a character, so there are never more turns than places.
            for (int turn = 0; turn < most; turn++) {
                int before = chart.captureCount();
                int end = part.endFrom(at, chart);
                if (end == FAILED) {
                    chart.takeBackTo(before);
                    return turn < least ? FAILED : at;
                }
                at = end;
            }
            return at;
        }

        @Override
        boolean emptyable(int empties) {
            return least == 0 || part.emptyable(empties);
        }

        @Override
        int starts(int empties) {
            return part.starts(empties);
        }

        @Override
        boolean goesRound(int empties) {
            return (most > 1 && part.emptyable(empties)) || part.goesRound(empties);
        }
    }

    /** An item with & or ! in front: whether its piece is wanted to match. */
    private static final class Look extends Pattern {
        private final Pattern piece;
        private final boolean wanted;

        Look(Pattern piece, boolean wanted) {
            this.piece = piece;
            this.wanted = wanted;
        }

        @Override
        int endFrom(int place, Chart chart) {
            int before = chart.captureCount();
            boolean ended = piece.endFrom(place, chart) != FAILED;
            chart.takeBackTo(before);
            return ended == wanted ? place : FAILED;
        }

        @Override
        boolean emptyable(int empties) {
            return true;
        }

        @Override
        int starts(int empties) {
            return piece.starts(empties);
        }

        @Override
        boolean goesRound(int empties) {
            return piece.goesRound(empties);
        }
    }

    private static final class Sequence extends Pattern {
        private final List<Pattern> items = new ArrayList<>();

        void add(Pattern item) {
            items.add(item);
        }

        @Override
        int endFrom(int place, Chart chart) {
            int end = place;
            for (int i = 0; i < items.size() && end != FAILED; i++) {
                end = items.get(i).endFrom(end, chart);
            }
            return end;
        }

        @Override
        boolean emptyable(int empties) {
            for (int i = 0; i < items.size(); i++) {
                if (!items.get(i).emptyable(empties)) {
                    return false;
                }
            }
            return true;
        }

        @Override
        int starts(int empties) {
            int rules = 0;
            for (int i = 0; i < items.size(); i++) {
                rules |= items.get(i).starts(empties);
                if (!items.get(i).emptyable(empties)) {
                    return rules;
                }
            }
            return rules;
        }

        @Override
        boolean goesRound(int empties) {
            for (int i = 0; i < items.size(); i++) {
                if (items.get(i).goesRound(empties)) {
                    return true;
                }
            }
            return false;
        }
    }

    private static final class Choice extends Pattern {
        private final List<Pattern> sequences = new ArrayList<>();

        void add(Pattern sequence) {
            sequences.add(sequence);
        }

        @Override
        int endFrom(int place, Chart chart) {
            int before = chart.captureCount();
            for (int i = 0; i < sequences.size(); i++) {
                int end = sequences.get(i).endFrom(place, chart);
                if (end != FAILED) {
                    return end;
                }
                chart.takeBackTo(before);
            }
            return FAILED;
        }

        @Override
        boolean emptyable(int empties) {
            for (int i = 0; i < sequences.size(); i++) {
                if (sequences.get(i).emptyable(empties)) {
                    return true;
                }
            }
            return false;
        }

        @Override
        int starts(int empties) {
            int rules = 0;
            for (int i = 0; i < sequences.size(); i++) {
                rules |= sequences.get(i).starts(empties);
            }
            return rules;
        }

        @Override
        boolean goesRound(int empties) {
            for (int i = 0; i < sequences.size(); i++) {
                if (sequences.get(i).goesRound(empties)) {
                    return true;
                }
            }
            return false;
        }
    }
}
