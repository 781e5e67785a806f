import java.util.ArrayDeque;
import java.util.ArrayList;
import java.util.Arrays;
import java.util.Collections;
import java.util.Comparator;
import java.util.Deque;
import java.util.HashMap;
import java.util.HashSet;
import java.util.List;
import java.util.Map;
import java.util.Set;
import java.util.TreeSet;

/**
 * The document once more, slow and without any shortcut: statements as trees, runs as histories,
 * BEFORE as a closure made anew at each STEP. The random tests hold the class against it.
 */
final class Model {
    /** A FAULT of a text. */
    static final class Fault extends RuntimeException {
        private static final long serialVersionUID = 1L;
        final int kind;
        final int place;

        Fault(int kind, int place) {
            this.kind = kind;
            this.place = place;
        }
    }

    /** More runs than the model cares to walk. */
    static final class TooLong extends RuntimeException {
        private static final long serialVersionUID = 1L;
    }

    static final class Statement {
        String kind;
        int place;
        int thread;
        int number = -1;
        char cell = '?';
        int target = -1;
        int base = -1;
        int digit = -1;
        int monitor = -1;
        List<Statement> then = new ArrayList<>();
        List<Statement> otherwise = null;
    }

    private record Token(String text, int place) {
    }

    final Map<Character, String> kinds = new HashMap<>();
    final List<List<Statement>> threads = new ArrayList<>();
    final List<Statement> actions = new ArrayList<>();
    int statements = 0;
    int maker = -1;
    int doneNumber = -1;
    private final List<Token> tokens = new ArrayList<>();
    private final Map<String, Integer> owners = new HashMap<>();
    private Set<Integer> held = new HashSet<>();
    private int at = 0;
    private int length;

    Model(String text) {
        length = text.length();
        cut(text);
        while (peek().matches("plain|volatile|final")) {
            declaration(next().text);
        }
        while (peek().equals("thread")) {
            Token word = next();
            if (threads.size() == 4) {
                throw new Fault(4, word.place);
            }
            threads.add(new ArrayList<>());
            held = new HashSet<>();
            block(threads.get(threads.size() - 1), 0, null);
        }
        if (at < tokens.size()) {
            throw new Fault(1, place());
        }
        if (threads.isEmpty()) {
            throw new Fault(7, length);
        }
    }

    private void cut(String text) {
        int i = 0;
        while (i < text.length()) {
            char sign = text.charAt(i);
            int from = i;
            if (sign == ' ' || sign == '\n') {
                i++;
                continue;
            }
            if (sign < 128 && Character.isLetterOrDigit(sign)) {
                while (i < text.length() && text.charAt(i) < 128 && Character.isLetterOrDigit(text.charAt(i))) {
                    i++;
                }
            } else if (text.startsWith("==", i)) {
                i += 2;
            } else {
                i++;
            }
            tokens.add(new Token(text.substring(from, i), from));
        }
    }

    private String peek() {
        return at < tokens.size() ? tokens.get(at).text : "(end)";
    }

    private int place() {
        return at < tokens.size() ? tokens.get(at).place : length;
    }

    private Token next() {
        return tokens.get(at++);
    }

    private Token want(String pattern) {
        if (!peek().matches(pattern)) {
            throw new Fault(1, place());
        }
        return next();
    }

    private void declaration(String kind) {
        do {
            Token name = want("[u-z]");
            if (kinds.containsKey(name.text.charAt(0))) {
                throw new Fault(2, name.place);
            }
            if (kinds.size() == 5) {
                throw new Fault(4, name.place);
            }
            kinds.put(name.text.charAt(0), kind);
        } while (peek().matches("[u-z]"));
        want(";");
    }

    private void block(List<Statement> into, int depth, Set<Integer> ahead) {
        want("\\{");
        while (!peek().equals("}")) {
            statement(into, depth);
        }
        Token shut = next();
        if (ahead != null && !ahead.equals(held)) {
            throw new Fault(5, shut.place);
        }
    }

    private int local() {
        Token name = want("r[0-4]");
        int me = threads.size() - 1;
        if (owners.computeIfAbsent(name.text, k -> me) != me) {
            throw new Fault(3, name.place);
        }
        return name.text.charAt(1) - '0';
    }

    private char cell() {
        Token name = want("[u-z]");
        if (!kinds.containsKey(name.text.charAt(0))) {
            throw new Fault(2, name.place);
        }
        return name.text.charAt(0);
    }

    private void count(int place) {
        if (++statements > 20) {
            throw new Fault(4, place);
        }
    }

    private void act(Statement s, int place) {
        if (actions.size() == 8) {
            throw new Fault(4, place);
        }
        s.number = actions.size();
        actions.add(s);
    }

    private void making(int depth, int place) {
        int me = threads.size() - 1;
        if (maker < 0) {
            maker = me;
        }
        if (maker != me || depth > 0 || doneNumber >= 0) {
            throw new Fault(6, place);
        }
    }

    private void sum(Statement s) {
        if (peek().matches("[0-9]")) {
            s.digit = next().text.charAt(0) - '0';
            return;
        }
        s.base = local();
        if (peek().equals("+")) {
            next();
            s.digit = want("[0-9]").text.charAt(0) - '0';
        }
    }

    private void statement(List<Statement> into, int depth) {
        Statement s = new Statement();
        s.thread = threads.size() - 1;
        int first = place();
        s.place = first;
        String word = peek();
        if (word.matches("r[0-4]")) {
            s.target = local();
            count(first);
            want("=");
            localStatement(s);
        } else if (word.matches("[u-z]")) {
            s.kind = "write";
            s.cell = cell();
            count(first);
            act(s, first);
            if (kinds.get(s.cell).equals("final")) {
                making(depth, first);
            }
            want("=");
            sum(s);
        } else if (word.matches("lock|unlock")) {
            s.kind = word;
            next();
            count(first);
            act(s, first);
            s.monitor = want("m[01]").text.charAt(1) - '0';
            boolean fits = word.equals("lock") ? held.add(s.monitor) : held.remove(s.monitor);
            if (!fits) {
                throw new Fault(5, first);
            }
        } else if (word.equals("done")) {
            s.kind = word;
            next();
            count(first);
            act(s, first);
            making(depth, first);
            doneNumber = s.number;
        } else if (word.equals("if")) {
            next();
            condition(s, first, depth);
            into.add(s);
            return;
        } else {
            throw new Fault(1, first);
        }
        into.add(s);
        want(";");
    }

    private void localStatement(Statement s) {
        int here = place();
        if (peek().matches("[u-z]")) {
            s.kind = "read";
            s.cell = cell();
            act(s, here);
            return;
        }
        s.kind = "set";
        if (at + 1 < tokens.size() && peek().matches("r[0-4]") && tokens.get(at + 1).text.equals(".")) {
            s.base = local();
            next();
            here = place();
            s.kind = "through";
            s.cell = cell();
            act(s, here);
            if (!kinds.get(s.cell).equals("final")) {
                throw new Fault(6, here);
            }
            return;
        }
        sum(s);
    }

    private void condition(Statement s, int first, int depth) {
        count(first);
        if (depth == 3) {
            throw new Fault(4, first);
        }
        s.kind = "if";
        s.target = local();
        want("==");
        s.digit = want("[0-9]").text.charAt(0) - '0';
        Set<Integer> ahead = new HashSet<>(held);
        block(s.then, depth + 1, ahead);
        if (peek().equals("else")) {
            next();
            s.otherwise = new ArrayList<>();
            block(s.otherwise, depth + 1, ahead);
        }
    }

    // ---- what stands in it

    int locals() {
        return owners.size();
    }

    int monitors() {
        Set<Integer> names = new HashSet<>();
        for (Statement s : actions) {
            if (s.monitor >= 0) {
                names.add(s.monitor);
            }
        }
        return names.size();
    }

    String printed() {
        StringBuilder text = new StringBuilder();
        for (String kind : List.of("plain", "volatile", "final")) {
            StringBuilder line = new StringBuilder(kind);
            for (char c = 'u'; c <= 'z'; c++) {
                if (kind.equals(kinds.get(c))) {
                    line.append(' ').append(c);
                }
            }
            if (line.length() > kind.length()) {
                text.append(line).append(";\n");
            }
        }
        for (List<Statement> thread : threads) {
            text.append("thread {\n");
            print(thread, text);
            text.append("}\n");
        }
        return text.toString();
    }

    private static String sumText(Statement s) {
        String base = s.base >= 0 ? "r" + s.base : "";
        String digit = s.digit >= 0 ? "" + s.digit : "";
        return base + (s.base >= 0 && s.digit >= 0 ? " + " : "") + digit;
    }

    private static void print(List<Statement> rows, StringBuilder text) {
        for (Statement s : rows) {
            switch (s.kind) {
                case "read" -> text.append("r" + s.target + " = " + s.cell + ";\n");
                case "through" -> text.append("r" + s.target + " = r" + s.base + "." + s.cell + ";\n");
                case "write" -> text.append(s.cell + " = " + sumText(s) + ";\n");
                case "set" -> text.append("r" + s.target + " = " + sumText(s) + ";\n");
                case "done" -> text.append("done;\n");
                case "if" -> {
                    text.append("if r" + s.target + " == " + s.digit + " {\n");
                    print(s.then, text);
                    if (s.otherwise != null) {
                        text.append("} else {\n");
                        print(s.otherwise, text);
                    }
                    text.append("}\n");
                }
                default -> text.append(s.kind + " m" + s.monitor + ";\n");
            }
        }
    }

    // ---- runs

    private record Event(Statement action, int seen) {
    }

    /** A run so far: what each thread has left, and its history. */
    private final class Run {
        final List<Deque<Statement>> left = new ArrayList<>();
        final int[] locals = new int[5];
        final boolean[] published = new boolean[5];
        final int[] cells = new int[128];
        final int[] holder = {-1, -1};
        final List<Deque<int[]>> queues = new ArrayList<>();
        final List<Event> history = new ArrayList<>();
        final List<Integer> row = new ArrayList<>();
        final int[] written = new int[8];

        Run() {
            for (List<Statement> thread : threads) {
                left.add(new ArrayDeque<>(thread));
                queues.add(new ArrayDeque<>());
            }
            for (int t = 0; t < threads.size(); t++) {
                settle(t);
            }
        }

        Run(Run from) {
            for (int t = 0; t < threads.size(); t++) {
                left.add(new ArrayDeque<>(from.left.get(t)));
                queues.add(new ArrayDeque<>(from.queues.get(t)));
            }
            System.arraycopy(from.locals, 0, locals, 0, 5);
            System.arraycopy(from.published, 0, published, 0, 5);
            System.arraycopy(from.cells, 0, cells, 0, 128);
            System.arraycopy(from.holder, 0, holder, 0, 2);
            System.arraycopy(from.written, 0, written, 0, 8);
            history.addAll(from.history);
            row.addAll(from.row);
        }

        void settle(int t) {
            Deque<Statement> rest = left.get(t);
            while (!rest.isEmpty() && rest.peek().number < 0) {
                Statement s = rest.pop();
                if (s.kind.equals("set")) {
                    locals[s.target] = sumOf(s);
                    published[s.target] = false;
                } else {
                    List<Statement> way = locals[s.target] == s.digit ? s.then : s.otherwise;
                    for (int i = way == null ? -1 : way.size() - 1; i >= 0; i--) {
                        rest.push(way.get(i));
                    }
                }
            }
        }

        int sumOf(Statement s) {
            return ((s.base >= 0 ? locals[s.base] : 0) + (s.digit >= 0 ? s.digit : 0)) % 10;
        }

        boolean possible(Statement s) {
            return switch (s.kind) {
                case "lock" -> holder[s.monitor] < 0;
                case "through" -> locals[s.base] != 0;
                default -> true;
            };
        }

        /** The outcome as the tests write it. */
        String outcome() {
            StringBuilder text = new StringBuilder();
            for (int v : locals) {
                text.append(v);
            }
            int stuck = 0;
            for (int t = 0; t < threads.size(); t++) {
                if (!left.get(t).isEmpty()) {
                    stuck |= 1 << t;
                }
            }
            return text.append('/').append(stuck).toString();
        }

        /** a BEFORE b, by numbers, among the history and one ACTION more (if not null). */
        boolean[][] before(Statement more, Set<Character> volatiles, boolean withDone) {
            boolean[][] r = new boolean[8][8];
            List<Event> all = new ArrayList<>(history);
            if (more != null) {
                boolean sync = more.kind.equals("read") && volatiles.contains(more.cell);
                all.add(new Event(more, sync ? latest(more.cell) : -1));
            }
            boolean[] by = new boolean[8];
            for (int i = 0; i < all.size(); i++) {
                Statement b = all.get(i).action;
                for (int j = 0; j < i; j++) {
                    Statement a = all.get(j).action;
                    boolean edge = a.thread == b.thread
                            || a.kind.equals("unlock") && b.kind.equals("lock") && a.monitor == b.monitor
                            || b.kind.equals("read") && volatiles.contains(b.cell) && all.get(i).seen == a.number
                            || withDone && a.kind.equals("done") && b.kind.equals("through") && through.contains(b.number);
                    r[a.number][b.number] |= edge;
                }
            }
            for (int k = 0; k < 8; k++) {
                for (int i = 0; i < 8; i++) {
                    for (int j = 0; j < 8; j++) {
                        r[i][j] |= r[i][k] && r[k][j];
                    }
                }
            }
            return r;
        }

        final Set<Integer> through = new HashSet<>();

        int latest(char cell) {
            for (int i = history.size() - 1; i >= 0; i--) {
                Statement s = history.get(i).action;
                if (s.kind.equals("write") && s.cell == cell) {
                    return s.number;
                }
            }
            return -1;
        }
    }

    private int budget = 0;

    private void spend() {
        if (--budget < 0) {
            throw new TooLong();
        }
    }

    private static int order(String outcome) {
        return Integer.parseInt(outcome.substring(0, 5)) * 16 + Integer.parseInt(outcome.substring(6));
    }

    private static TreeSet<String> outcomeSet() {
        return new TreeSet<>(Comparator.comparingInt(Model::order));
    }

    Set<Character> cellsOf(String kind) {
        Set<Character> cells = new HashSet<>();
        kinds.forEach((c, k) -> {
            if (k.equals(kind)) {
                cells.add(c);
            }
        });
        return cells;
    }

    TreeSet<String> outcomes(int order, Set<Character> volatiles, int runs) {
        TreeSet<String> found = outcomeSet();
        budget = runs;
        if (order == 1) {
            queued(new Run(), volatiles, found, new HashSet<>());
            return found;
        }
        List<Run> ends = new ArrayList<>();
        if (order == 0) {
            sequential(new Run(), ends);
        } else {
            loose(new Run(), volatiles, ends);
        }
        for (Run end : ends) {
            found.add(end.outcome());
        }
        return found;
    }

    private void sequential(Run run, List<Run> ends) {
        spend();
        boolean moved = false;
        for (int t = 0; t < threads.size(); t++) {
            Statement s = run.left.get(t).peek();
            if (s == null || !run.possible(s)) {
                continue;
            }
            moved = true;
            Run then = new Run(run);
            then.left.get(t).pop();
            int seen = -1;
            if (s.kind.equals("read") || s.kind.equals("through")) {
                seen = then.latest(s.cell);
                then.locals[s.target] = then.cells[s.cell];
            } else if (s.kind.equals("write")) {
                then.cells[s.cell] = then.sumOf(s);
            }
            monitors(then, s, t);
            then.history.add(new Event(s, seen));
            then.row.add(t);
            then.settle(t);
            sequential(then, ends);
        }
        if (!moved) {
            ends.add(run);
        }
    }

    private static void monitors(Run run, Statement s, int t) {
        if (s.kind.equals("lock")) {
            run.holder[s.monitor] = t;
        } else if (s.kind.equals("unlock")) {
            run.holder[s.monitor] = -1;
        }
    }

    private void queued(Run run, Set<Character> volatiles, Set<String> found, Set<String> seenStates) {
        if (!seenStates.add(keyOf(run))) {
            return;
        }
        spend();
        boolean moved = false;
        for (int t = 0; t < threads.size(); t++) {
            if (!run.queues.get(t).isEmpty()) {
                moved = true;
                Run then = new Run(run);
                int[] first = then.queues.get(t).pollFirst();
                then.cells[first[0]] = first[1];
                queued(then, volatiles, found, seenStates);
            }
            Statement s = run.left.get(t).peek();
            if (s == null || !run.possible(s)) {
                continue;
            }
            boolean waits = s.monitor >= 0 || s.kind.equals("read") && volatiles.contains(s.cell);
            if (waits && !run.queues.get(t).isEmpty()) {
                continue;
            }
            moved = true;
            Run then = new Run(run);
            then.left.get(t).pop();
            if (s.kind.equals("read") || s.kind.equals("through")) {
                int v = then.cells[s.cell];
                for (int[] one : then.queues.get(t)) {
                    v = one[0] == s.cell ? one[1] : v;
                }
                then.locals[s.target] = v;
            } else if (s.kind.equals("write")) {
                then.queues.get(t).addLast(new int[] {s.cell, then.sumOf(s)});
            }
            monitors(then, s, t);
            then.settle(t);
            queued(then, volatiles, found, seenStates);
        }
        if (!moved) {
            found.add(run.outcome());
        }
    }

    private String keyOf(Run run) {
        StringBuilder key = new StringBuilder();
        for (int t = 0; t < threads.size(); t++) {
            for (Statement s : run.left.get(t)) {
                key.append(s.place).append(',');
            }
            key.append('|');
            for (int[] one : run.queues.get(t)) {
                key.append((char) one[0]).append(one[1]);
            }
            key.append('|');
        }
        for (char c = 'u'; c <= 'z'; c++) {
            key.append(run.cells[c]);
        }
        return key.append(Arrays.toString(run.locals)).append(Arrays.toString(run.holder)).toString();
    }

    private void loose(Run run, Set<Character> volatiles, List<Run> ends) {
        spend();
        boolean moved = false;
        for (int t = 0; t < threads.size(); t++) {
            Statement s = run.left.get(t).peek();
            if (s == null || !run.possible(s)) {
                continue;
            }
            moved = true;
            boolean reads = s.kind.equals("read") || s.kind.equals("through");
            if (!reads) {
                looseStep(run, volatiles, ends, s, -1);
                continue;
            }
            if (volatiles.contains(s.cell)) {
                looseStep(run, volatiles, ends, s, run.latest(s.cell));
                continue;
            }
            for (int seen : visible(run, s, volatiles)) {
                looseStep(run, volatiles, ends, s, seen);
            }
        }
        if (!moved) {
            ends.add(run);
        }
    }

    private List<Integer> visible(Run run, Statement s, Set<Character> volatiles) {
        Run there = new Run(run);
        there.through.addAll(run.through);
        if (s.kind.equals("through") && run.published[s.base]) {
            there.through.add(s.number);
        }
        boolean[][] r = there.before(s, volatiles, true);
        List<Integer> writes = new ArrayList<>();
        for (Event e : run.history) {
            if (e.action.kind.equals("write") && e.action.cell == s.cell) {
                writes.add(e.action.number);
            }
        }
        List<Integer> visible = new ArrayList<>();
        boolean zero = true;
        for (int w : writes) {
            zero &= !r[w][s.number];
            boolean hidden = false;
            for (int other : writes) {
                hidden |= r[w][other] && r[other][s.number];
            }
            if (!hidden) {
                visible.add(w);
            }
        }
        if (zero) {
            visible.add(-1);
        }
        return visible;
    }

    private void looseStep(Run run, Set<Character> volatiles, List<Run> ends, Statement s, int seen) {
        Run then = new Run(run);
        then.through.addAll(run.through);
        then.left.get(s.thread).pop();
        if (s.kind.equals("read") || s.kind.equals("through")) {
            if (s.kind.equals("through") && run.published[s.base]) {
                then.through.add(s.number);
            }
            then.locals[s.target] = seen < 0 ? 0 : then.written[seen];
            then.published[s.target] = s.kind.equals("read") && seen >= 0 && maker >= 0 && doneNumber >= 0
                    && actions.get(seen).thread == maker && seen > doneNumber;
        } else if (s.kind.equals("write")) {
            then.written[s.number] = then.sumOf(s);
        }
        monitors(then, s, s.thread);
        then.history.add(new Event(s, seen));
        then.settle(s.thread);
        loose(then, volatiles, ends);
    }

    // ---- what is asked of runs

    /** The races, each lesser-greater, with blanks between. */
    String races(int runs) {
        budget = runs;
        List<Run> ends = new ArrayList<>();
        sequential(new Run(), ends);
        Set<Character> volatiles = cellsOf("volatile");
        TreeSet<String> found = new TreeSet<>();
        for (Run end : ends) {
            boolean[][] r = end.before(null, volatiles, false);
            for (Event one : end.history) {
                for (Event two : end.history) {
                    Statement a = one.action;
                    Statement b = two.action;
                    if (a.number < b.number && a.thread != b.thread && a.cell != '?' && a.cell == b.cell
                            && (a.kind.equals("write") || b.kind.equals("write")) && !volatiles.contains(a.cell)
                            && !r[a.number][b.number] && !r[b.number][a.number]) {
                        found.add(a.number + "-" + b.number);
                    }
                }
            }
        }
        return String.join(" ", found);
    }

    /** What before() answers for all pairs. */
    int[][] before(int runs) {
        budget = runs;
        List<Run> ends = new ArrayList<>();
        Set<Character> volatiles = cellsOf("volatile");
        loose(new Run(), volatiles, ends);
        int[][] both = new int[8][8];
        int[][] first = new int[8][8];
        for (Run end : ends) {
            boolean[][] r = end.before(null, volatiles, true);
            for (Event one : end.history) {
                for (Event two : end.history) {
                    int a = one.action.number;
                    int b = two.action.number;
                    both[a][b]++;
                    first[a][b] += r[a][b] ? 1 : 0;
                }
            }
        }
        int[][] answer = new int[8][8];
        for (int a = 0; a < 8; a++) {
            for (int b = 0; b < 8; b++) {
                int n = first[a][b];
                boolean there = a < actions.size() && b < actions.size() && a != b;
                answer[a][b] = !there ? -1 : both[a][b] == 0 ? 0 : n == both[a][b] ? 1 : n > 0 ? 2 : 3;
            }
        }
        return answer;
    }

    /** The rows of threads of the witness; null if there is none. */
    List<Integer> witness(int[] wish, int runs) {
        budget = runs;
        List<Run> ends = new ArrayList<>();
        sequential(new Run(), ends);
        List<Integer> best = null;
        for (Run end : ends) {
            boolean meets = true;
            for (int l = 0; l < 5; l++) {
                meets &= wish[l] < 0 || wish[l] == end.locals[l];
            }
            if (meets && (best == null || compare(end.row, best) < 0)) {
                best = end.row;
            }
        }
        return best;
    }

    private static int compare(List<Integer> one, List<Integer> other) {
        if (one.size() != other.size()) {
            return one.size() - other.size();
        }
        for (int i = 0; i < one.size(); i++) {
            if (!one.get(i).equals(other.get(i))) {
                return one.get(i) - other.get(i);
            }
        }
        return 0;
    }

    int fence(int order, int runs) {
        if (kinds.containsValue("final")) {
            return -1;
        }
        Set<String> due = outcomes(0, Set.of(), runs);
        List<Integer> sets = new ArrayList<>();
        for (int set = 0; set < 64; set++) {
            sets.add(set);
        }
        sets.sort(Comparator.comparingInt((Integer set) -> Integer.bitCount(set)).thenComparingInt(set -> set));
        for (int set : sets) {
            Set<Character> volatiles = cellsOf("volatile");
            boolean plain = true;
            for (int c = 0; c < 6; c++) {
                if ((set >> c & 1) != 0) {
                    plain &= "plain".equals(kinds.get((char) ('u' + c)));
                    volatiles.add((char) ('u' + c));
                }
            }
            if (plain && outcomes(order, volatiles, runs).equals(due)) {
                return set;
            }
        }
        return -1;
    }

    /** The least text among all renamings: programs are alike if these are the same. */
    String likeness() {
        List<String> rows = new ArrayList<>();
        for (List<Statement> thread : threads) {
            StringBuilder text = new StringBuilder();
            print(thread, text);
            rows.add(text.toString());
        }
        String least = null;
        for (List<String> order : permutations(rows)) {
            String named = named(String.join("}\n", order));
            least = least == null || named.compareTo(least) < 0 ? named : least;
        }
        return least;
    }

    /** The names as they come first: cells by kind and number, locals, monitors by number. */
    private String named(String text) {
        Map<String, String> names = new HashMap<>();
        int[] count = new int[5];
        StringBuilder out = new StringBuilder();
        for (String part : text.split("(?<=[^a-z0-9])|(?=[^a-z0-9])")) {
            if (part.matches("[u-z]")) {
                String kind = kinds.get(part.charAt(0));
                int group = kind.equals("plain") ? 0 : kind.equals("volatile") ? 1 : 2;
                out.append(names.computeIfAbsent(part, k -> kind + count[group]++));
            } else if (part.matches("r[0-4]")) {
                out.append(names.computeIfAbsent(part, k -> "r" + count[3]++));
            } else if (part.matches("m[01]")) {
                out.append(names.computeIfAbsent(part, k -> "m" + count[4]++));
            } else {
                out.append(part);
            }
        }
        return out.toString();
    }

    static <T> List<List<T>> permutations(List<T> of) {
        if (of.isEmpty()) {
            return Collections.singletonList(List.of());
        }
        List<List<T>> all = new ArrayList<>();
        for (int i = 0; i < of.size(); i++) {
            List<T> others = new ArrayList<>(of);
            T first = others.remove(i);
            for (List<T> rest : permutations(others)) {
                List<T> one = new ArrayList<>();
                one.add(first);
                one.addAll(rest);
                all.add(one);
            }
        }
        return all;
    }
}
