import java.util.ArrayDeque;
import java.util.ArrayList;
import java.util.Arrays;
import java.util.Deque;
import java.util.List;
import java.util.TreeMap;
import java.util.TreeSet;

/** The document told once more, as plainly as it goes and in another way than the class does, to compare with. */
final class Model {
    /** What a text stops with. */
    private static final class Fault extends RuntimeException {
        private static final long serialVersionUID = 1L;
        final int kind;
        final int place;

        Fault(int kind, int place) {
            this.kind = kind;
            this.place = place;
        }
    }

    private static final class State {
        final List<TreeMap<Integer, Boolean>> sets = new ArrayList<>();
        final Integer[] fingers = new Integer[8];
        String tape = "";
        String told = "";
        int fault = 0;
        int place = -1;

        State() {
            for (int s = 0; s < 8; s++) {
                sets.add(new TreeMap<>());
            }
        }

        State copy() {
            State c = new State();
            for (int s = 0; s < 8; s++) {
                c.sets.get(s).putAll(sets.get(s));
                c.fingers[s] = fingers[s];
            }
            c.tape = tape;
            c.told = told;
            c.fault = fault;
            c.place = place;
            return c;
        }
    }

    private State now = new State();
    private final Deque<State> past = new ArrayDeque<>();
    private final State[] images = new State[3];

    int feed(int... words) {
        if (now.tape.length() + 20 > 800) {
            return -1;
        }
        StringBuilder s = new StringBuilder(now.tape);
        for (int word : words) {
            for (int by = 24; by >= 0; by -= 8) {
                s.append((char) (word >>> by & 255));
            }
        }
        now.tape = s.toString();
        return now.tape.length();
    }

    int end(int n) {
        if (n < 0 || n > now.tape.length()) {
            return -1;
        }
        now.tape = now.tape.substring(0, n);
        return n;
    }

    // ---- texts: first all tokens, then what they say

    private static final class Token {
        final String form;
        final int place;

        Token(String form, int place) {
            this.form = form;
            this.place = place;
        }

        boolean isNumber() {
            return form.matches("[0-9]{1,4}");
        }

        int value() {
            return Integer.parseInt(form);
        }
    }

    private List<Token> tokens;
    private int at;

    private static List<Token> tokensOf(String tape) {
        List<Token> list = new ArrayList<>();
        java.util.regex.Matcher m = java.util.regex.Pattern.compile("[a-z]+|[0-9]+|[^ \\n]", java.util.regex.Pattern.DOTALL).matcher(tape);
        while (m.find()) {
            list.add(new Token(m.group(), m.start()));
        }
        list.add(new Token("", tape.length()));
        return list;
    }

    private Token peek() {
        return tokens.get(at);
    }

    private int number(boolean set) {
        Token t = peek();
        if (!t.isNumber()) {
            throw new Fault(1, t.place);
        }
        if (set && t.value() > 7) {
            throw new Fault(2, t.place);
        }
        at++;
        return t.value();
    }

    private void semicolon() {
        if (!peek().form.equals(";")) {
            throw new Fault(1, peek().place);
        }
        at++;
    }

    int text() {
        State before = now;
        String tape = now.tape;
        now = new State();
        now.told = before.told;
        tokens = tokensOf(tape);
        at = 0;
        try {
            while (!peek().form.isEmpty()) {
                line();
            }
        } catch (Fault f) {
            now = before;
            now.tape = "";
            now.fault = f.kind;
            now.place = f.place;
            return -1;
        }
        past.clear();
        return count(0);
    }

    private void line() {
        Token word = peek();
        at++;
        int refused;
        if (word.form.equals("set")) {
            int set = number(true);
            while (peek().isNumber()) {
                item(set);
            }
            semicolon();
            return;
        } else if (word.form.equals("mark")) {
            int a = number(true);
            int b = number(false);
            int c = number(false);
            semicolon();
            refused = doMark(a, b, c, false);
        } else if (word.form.equals("cut")) {
            int a = number(true);
            int b = number(false);
            int c = number(true);
            semicolon();
            refused = doCut(a, b, c);
        } else if (word.form.equals("join") || word.form.equals("melt")) {
            int a = number(true);
            int b = number(true);
            semicolon();
            refused = word.form.equals("join") ? doJoin(a, b) : doMelt(a, b);
        } else if (word.form.equals("shift")) {
            int a = number(true);
            boolean less = peek().form.equals("-");
            at += less ? 1 : 0;
            int b = number(false);
            semicolon();
            refused = doShift(a, less ? -b : b);
        } else if (word.form.equals("move")) {
            int a = number(true);
            int b = number(false);
            int c = number(false);
            int d = number(true);
            semicolon();
            refused = doMove(a, b, c, d);
        } else {
            throw new Fault(1, word.place);
        }
        if (refused < 0) {
            throw new Fault(4, word.place);
        }
    }

    private void item(int set) {
        int place = peek().place;
        int first = number(false);
        int last = first;
        if (peek().form.equals("-")) {
            at++;
            int lastPlace = peek().place;
            last = number(false);
            if (last < first) {
                throw new Fault(2, lastPlace);
            }
        }
        for (int k = first; k <= last; k++) {
            if (doPut(set, k) == -4) {
                throw new Fault(3, place);
            }
        }
    }

    int fault(int what) {
        return what == 0 ? now.fault : what == 1 ? now.place : -1;
    }

    // ---- acts

    private interface Act {
        int run();
    }

    private int act(Act act) {
        State before = now.copy();
        int answer = act.run();
        if (answer >= 0) {
            past.addLast(before);
            if (past.size() > 12) {
                past.removeFirst();
            }
        }
        return answer;
    }

    int put(int set, int key) {
        return act(() -> doPut(set, key));
    }

    int drop(int set, int key) {
        return act(() -> doDrop(set, key));
    }

    int cut(int set, int above, int to) {
        return act(() -> doCut(set, above, to));
    }

    int join(int to, int of) {
        return act(() -> doJoin(to, of));
    }

    int melt(int to, int of) {
        return act(() -> doMelt(to, of));
    }

    int shift(int set, int by) {
        return act(() -> doShift(set, by));
    }

    int move(int set, int from, int last, int to) {
        return act(() -> doMove(set, from, last, to));
    }

    int mark(int set, int from, int last, boolean not) {
        return act(() -> doMark(set, from, last, not));
    }

    int seek(int set, int number) {
        return act(() -> doSeek(set, number));
    }

    private static boolean noSet(int set) {
        return set < 0 || set > 7;
    }

    private static boolean noKey(int key) {
        return key < 0 || key > 9999;
    }

    private TreeMap<Integer, Boolean> get(int set) {
        return now.sets.get(set);
    }

    private int doPut(int set, int key) {
        if (noSet(set) || noKey(key)) {
            return -1;
        }
        if (get(set).containsKey(key)) {
            return -2;
        }
        if (get(set).size() == 60 || count(0) == 240) {
            return -4;
        }
        now.fingers[set] = null;
        get(set).put(key, false);
        return get(set).headMap(key).size();
    }

    private int doDrop(int set, int key) {
        if (noSet(set) || noKey(key)) {
            return -1;
        }
        if (!get(set).containsKey(key)) {
            return -2;
        }
        now.fingers[set] = null;
        get(set).remove(key);
        return get(set).size();
    }

    /** KEYS go as they are; a SET that has other KEYS by that has no FINGER then. */
    private int go(TreeMap<Integer, Boolean> keys, int set, int to) {
        TreeMap<Integer, Boolean> going = new TreeMap<>(keys);
        TreeSet<Integer> before = new TreeSet<>(get(to).keySet());
        for (int key : going.keySet()) {
            get(set).remove(key);
            get(to).merge(key, going.get(key), (a, b) -> a || b);
        }
        now.fingers[set] = null;
        if (!before.equals(get(to).keySet())) {
            now.fingers[to] = null;
        }
        return going.size();
    }

    private int doCut(int set, int above, int to) {
        if (noSet(set) || noSet(to) || noKey(above) || set == to) {
            return -1;
        }
        TreeMap<Integer, Boolean> going = new TreeMap<>(get(set).tailMap(above, false));
        if (going.isEmpty()) {
            return -2;
        }
        return get(to).isEmpty() ? go(going, set, to) : -3;
    }

    private int whyNotJoin(int to, int of) {
        if (noSet(to) || noSet(of) || to == of) {
            return -1;
        }
        if (get(of).isEmpty()) {
            return -2;
        }
        for (int a : get(to).keySet()) {
            for (int b : get(of).keySet()) {
                if (a >= b) {
                    return -3;
                }
            }
        }
        return get(to).size() + get(of).size() > 60 ? -4 : 0;
    }

    private int doJoin(int to, int of) {
        int why = whyNotJoin(to, of);
        if (why < 0) {
            return why;
        }
        go(get(of), of, to);
        return get(to).size();
    }

    private int whyNotMelt(int to, int of) {
        if (noSet(to) || noSet(of) || to == of) {
            return -1;
        }
        if (get(of).isEmpty()) {
            return -2;
        }
        TreeSet<Integer> both = new TreeSet<>(get(to).keySet());
        both.addAll(get(of).keySet());
        return both.size() > 60 ? -4 : 0;
    }

    private int doMelt(int to, int of) {
        int why = whyNotMelt(to, of);
        if (why < 0) {
            return why;
        }
        int cost = pair(to, of, 2);
        go(get(of), of, to);
        return cost;
    }

    private int doShift(int set, int by) {
        if (noSet(set) || by < -9999 || by > 9999) {
            return -1;
        }
        if (by == 0 || get(set).isEmpty()) {
            return -2;
        }
        TreeMap<Integer, Boolean> shifted = new TreeMap<>();
        for (int key : get(set).keySet()) {
            if (noKey(key + by)) {
                return -3;
            }
            shifted.put(key + by, get(set).get(key));
        }
        now.sets.set(set, shifted);
        if (now.fingers[set] != null) {
            now.fingers[set] += by;
        }
        return shifted.size();
    }

    private TreeMap<Integer, Boolean> between(int set, int from, int last) {
        return from > last ? new TreeMap<>() : new TreeMap<>(get(set).subMap(from, true, last, true));
    }

    private int doMove(int set, int from, int last, int to) {
        if (noSet(set) || noSet(to) || noKey(from) || noKey(last) || set == to) {
            return -1;
        }
        TreeMap<Integer, Boolean> going = between(set, from, last);
        if (going.isEmpty()) {
            return -2;
        }
        if (!between(to, going.firstKey(), going.lastKey()).isEmpty()) {
            return -3;
        }
        return get(to).size() + going.size() > 60 ? -4 : go(going, set, to);
    }

    private int doMark(int set, int from, int last, boolean not) {
        if (noSet(set) || noKey(from) || noKey(last)) {
            return -1;
        }
        int others = 0;
        for (int key : between(set, from, last).keySet()) {
            others += get(set).put(key, !not) == not ? 1 : 0;
        }
        return others == 0 ? -2 : others;
    }

    private int doSeek(int set, int number) {
        if (noSet(set) || noKey(number)) {
            return -1;
        }
        if (get(set).isEmpty()) {
            return -2;
        }
        Integer to = get(set).floorKey(number);
        to = to == null ? get(set).firstKey() : to;
        int far = now.fingers[set] == null ? 0 : far(set, now.fingers[set], to);
        now.fingers[set] = to;
        return far;
    }

    int undo() {
        if (past.isEmpty()) {
            return -1;
        }
        State before = past.removeLast();
        before.tape = now.tape;
        before.told = now.told;
        before.fault = now.fault;
        before.place = now.place;
        now = before;
        return past.size();
    }

    // ---- what there is: THE TREE by its own definition

    private static int priority(int key) {
        return (int) ((key * 40503L + 9973L) % 65536L);
    }

    private static int rootOf(TreeSet<Integer> keys) {
        int root = -1;
        for (int key : keys) {
            if (root == -1 || priority(key) > priority(root)) {
                root = key;
            }
        }
        return root;
    }

    private static int high(TreeSet<Integer> keys) {
        if (keys.isEmpty()) {
            return 0;
        }
        int root = rootOf(keys);
        return 1 + Math.max(high(new TreeSet<>(keys.headSet(root, false))), high(new TreeSet<>(keys.tailSet(root, false))));
    }

    /** The KEYS of the tree from a KEY down. */
    private static TreeSet<Integer> down(TreeSet<Integer> keys, int key) {
        TreeSet<Integer> part = keys;
        while (rootOf(part) != key) {
            int root = rootOf(part);
            part = new TreeSet<>(key < root ? part.headSet(root, false) : part.tailSet(root, false));
        }
        return part;
    }

    /** The way from the ROOT down to a KEY. */
    private static List<Integer> way(TreeSet<Integer> keys, int key) {
        List<Integer> way = new ArrayList<>();
        TreeSet<Integer> part = keys;
        while (true) {
            int root = rootOf(part);
            way.add(root);
            if (root == key) {
                return way;
            }
            part = new TreeSet<>(key < root ? part.headSet(root, false) : part.tailSet(root, false));
        }
    }

    private TreeSet<Integer> keys(int set) {
        return new TreeSet<>(get(set).keySet());
    }

    int set(int set, int what) {
        if (noSet(set)) {
            return -1;
        }
        TreeSet<Integer> keys = keys(set);
        List<Integer> list = new ArrayList<>(keys);
        switch (what) {
            case 0: return keys.size();
            case 1: return keys.isEmpty() ? -1 : keys.first();
            case 2: return keys.isEmpty() ? -1 : keys.last();
            case 3: return (int) get(set).values().stream().filter(m -> m).count();
            case 4: return rootOf(keys);
            case 5: return high(keys);
            case 6: return now.fingers[set] == null ? -1 : now.fingers[set];
            case 7: {
                int least = -1;
                for (int a : list) {
                    for (int b : list) {
                        if (a < b && (least == -1 || b - a < least)) {
                            least = b - a;
                        }
                    }
                }
                return least;
            }
            case 8: return list.stream().mapToInt(k -> way(keys, k).size() - 1).sum();
            case 9: return (int) list.stream().filter(k -> !keys.contains(k - 1)).count();
            case 10: return list.stream().mapToInt(k -> k).sum();
            default: return -1;
        }
    }

    int key(int set, int k) {
        if (noSet(set) || k < 0 || k >= get(set).size()) {
            return -1;
        }
        return new ArrayList<>(get(set).keySet()).get(k);
    }

    int of(int set, int key, int what) {
        if (noSet(set) || !get(set).containsKey(key)) {
            return -1;
        }
        TreeSet<Integer> keys = keys(set);
        List<Integer> way = way(keys, key);
        TreeSet<Integer> down = down(keys, key);
        switch (what) {
            case 0: return keys.headSet(key).size();
            case 1: return get(set).get(key) ? 1 : 0;
            case 2: return way.size() - 1;
            case 3: return way.size() < 2 ? -1 : way.get(way.size() - 2);
            case 4: return rootOf(new TreeSet<>(down.headSet(key, false)));
            case 5: return rootOf(new TreeSet<>(down.tailSet(key, false)));
            case 6: return priority(key);
            case 7: return down.size() - 1;
            default: return -1;
        }
    }

    int within(int set, int from, int last, boolean marked) {
        if (noSet(set)) {
            return -1;
        }
        return (int) get(set).entrySet().stream()
                .filter(e -> e.getKey() >= from && e.getKey() <= last && (!marked || e.getValue())).count();
    }

    int far(int set, int one, int other) {
        if (noSet(set) || !get(set).containsKey(one) || !get(set).containsKey(other)) {
            return -1;
        }
        List<Integer> a = way(keys(set), one);
        List<Integer> b = way(keys(set), other);
        int common = 0;
        while (common < a.size() && common < b.size() && a.get(common).equals(b.get(common))) {
            common++;
        }
        return a.size() + b.size() - 2 * common;
    }

    int where(int key) {
        int bits = 0;
        for (int s = 0; s < 8; s++) {
            bits += get(s).containsKey(key) ? 1 << s : 0;
        }
        return bits;
    }

    private List<Integer> all() {
        List<Integer> all = new ArrayList<>();
        now.sets.forEach(s -> all.addAll(s.keySet()));
        all.sort(null);
        return all;
    }

    int count(int what) {
        switch (what) {
            case 0: return all().size();
            case 1: return (int) now.sets.stream().filter(s -> !s.isEmpty()).count();
            case 2: return new TreeSet<>(all()).size();
            case 3: return now.sets.stream().mapToInt(s -> (int) s.values().stream().filter(m -> m).count()).sum();
            case 4: return past.size();
            case 5: return now.tape.length();
            case 6: return huffman();
            case 7: return now.told.length();
            default: return -1;
        }
    }

    private int huffman() {
        List<int[]> left = new ArrayList<>();
        for (int s = 0; s < 8; s++) {
            if (!get(s).isEmpty()) {
                left.add(new int[] {get(s).size(), s});
            }
        }
        int sum = 0;
        while (left.size() > 1) {
            left.sort((a, b) -> a[0] != b[0] ? a[0] - b[0] : a[1] - b[1]);
            int[] a = left.remove(0);
            int[] b = left.remove(0);
            sum += a[0] + b[0];
            left.add(new int[] {a[0] + b[0], Math.min(a[1], b[1])});
        }
        return sum;
    }

    // ---- what would be

    /** The lengths of all RUNS. */
    private int[] runs(int one, int other) {
        TreeSet<Integer> both = new TreeSet<>(get(one).keySet());
        both.addAll(get(other).keySet());
        StringBuilder owners = new StringBuilder();
        for (int key : both) {
            owners.append(get(one).containsKey(key) ? 'a' : 'b');
        }
        return Arrays.stream(owners.toString().split("(?<=a)(?=b)|(?<=b)(?=a)")).mapToInt(String::length).filter(n -> n > 0).toArray();
    }

    int pair(int one, int other, int what) {
        if (noSet(one) || noSet(other) || one == other) {
            return -1;
        }
        int[] runs = runs(one, other);
        TreeSet<Integer> twins = keys(one);
        twins.retainAll(keys(other));
        switch (what) {
            case 0: return runs.length;
            case 1: return twins.size();
            case 2: return Arrays.stream(runs).map(n -> Integer.toBinaryString(n).length()).sum();
            case 3: return get(one).size() + get(other).size() - 2 * twins.size();
            case 4: return Arrays.stream(runs).max().orElse(0);
            case 5: return whyNotJoin(one, other) == 0 ? 1 : 0;
            case 6: return whyNotMelt(one, other) == 0 ? 1 : 0;
            default: return -1;
        }
    }

    int cheapest(int what) {
        int[] best = null;
        for (int i = 0; i < 8; i++) {
            for (int j = i + 1; j < 8; j++) {
                if (!get(i).isEmpty() && !get(j).isEmpty() && pair(i, j, 6) == 1 && (best == null || pair(i, j, 2) < best[2])) {
                    best = new int[] {i, j, pair(i, j, 2)};
                }
            }
        }
        return best == null || what < 0 || what > 2 ? -1 : best[what];
    }

    int merged(int k) {
        return k < 0 || k >= all().size() ? -1 : all().get(k);
    }

    int would(int set, int key, boolean gone) {
        if (noSet(set) || noKey(key) || get(set).containsKey(key) != gone) {
            return -1;
        }
        TreeSet<Integer> keys = keys(set);
        if (gone) {
            keys.remove(key);
        } else {
            keys.add(key);
        }
        return high(keys);
    }

    int halves(int set) {
        if (noSet(set) || get(set).size() < 2) {
            return -1;
        }
        int half = get(set).size() - get(set).size() / 2;
        for (int key : get(set).keySet()) {
            if (get(set).headMap(key, true).size() == half) {
                return key;
            }
        }
        return -1;
    }

    // ---- told

    int tell(int set) {
        if (noSet(set)) {
            return -1;
        }
        List<Integer> list = new ArrayList<>(get(set).keySet());
        List<String> parts = new ArrayList<>();
        while (!list.isEmpty()) {
            int first = list.get(0);
            int n = 1;
            boolean marked = get(set).get(first);
            while (n < list.size() && list.get(n) == first + n && get(set).get(first + n) == marked) {
                n++;
            }
            String star = marked ? "*" : "";
            if (n >= 3) {
                parts.add(first + "-" + (first + n - 1) + star);
            } else {
                for (int i = 0; i < n; i++) {
                    parts.add((first + i) + star);
                }
            }
            list.subList(0, n).clear();
        }
        now.told = String.join(" ", parts);
        return now.told.length();
    }

    int octet(int i) {
        return i < 0 || i >= now.told.length() ? -1 : now.told.charAt(i);
    }

    boolean image(int k) {
        if (k < 0 || k > 2) {
            return false;
        }
        images[k] = now.copy();
        return true;
    }

    boolean again(int k) {
        if (k < 0 || k > 2 || images[k] == null) {
            return false;
        }
        now = images[k].copy();
        past.clear();
        return true;
    }
}
