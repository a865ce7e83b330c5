import java.nio.charset.StandardCharsets;
import java.util.Random;

/** Runs of 512 calls, the same ones each time, on the class and on the Model: all answers must be alike. */
public final class AgainstModelTest {
    private static final int RUNS = 400;
    private static final String[] WORDS = {"set", "set", "set", "mark", "cut", "join", "melt", "shift", "move"};

    private final Random random;
    private final int seed;
    private final int span;
    private final MeltingHeaps x = new MeltingHeaps();
    private final Model model = new Model();
    private int calls = 0;
    private boolean apart = false;

    private AgainstModelTest(int seed) {
        this.seed = seed;
        this.random = new Random(seed);
        // KEYS near one another make TWINS and stretches, KEYS far apart make long tellings
        this.span = new int[] {12, 70, 150, 400, 10000}[seed % 5];
    }

    public static void main(String[] args) {
        int runs = args.length > 0 ? Integer.parseInt(args[0]) : RUNS;
        for (int seed = 0; seed < runs; seed++) {
            new AgainstModelTest(seed).run();
        }
        Check.end("AgainstModelTest");
    }

    private void run() {
        while (calls < 512 && !apart) {
            int dice = random.nextInt(100);
            if (dice < 6) {
                feedText();
            } else if (dice < 8) {
                meltTwins();
            } else if (dice < 50) {
                act();
            } else {
                ask();
            }
        }
    }

    private void due(String call, long got, long want) {
        calls++;
        apart = apart || got != want;
        Check.due("seed " + seed + ", call " + calls + ": " + call, got, want);
    }

    private int set() {
        return random.nextInt(60) == 0 ? odd() : random.nextInt(seed % 3 == 0 ? 3 : 8);
    }

    private int key() {
        return random.nextInt(60) == 0 ? odd() : random.nextInt(span);
    }

    private int odd() {
        int[] odds = {-1, 8, 7, 9999, 10000, -9999, -10000, Integer.MIN_VALUE, Integer.MAX_VALUE, 60, 61, 240};
        return odds[random.nextInt(odds.length)];
    }

    private int what(int most) {
        return random.nextInt(most + 3) - 1;
    }

    private int by() {
        return random.nextInt(40) == 0 ? odd() : random.nextInt(2 * span + 1) - span;
    }

    private int stretchFrom(int from) {
        return random.nextInt(20) == 0 ? key() : from + random.nextInt(Math.max(1, span / 3));
    }

    private void act() {
        int a = set();
        int b = set();
        int k = key();
        int l = stretchFrom(k);
        boolean flag = random.nextInt(3) == 0;
        switch (random.nextInt(24)) {
            case 0: case 1: case 2: case 3: case 4: case 5: case 6: case 7:
                due("put(" + a + ", " + k + ")", x.put(a, k), model.put(a, k)); break;
            case 8: case 9:
                due("drop(" + a + ", " + k + ")", x.drop(a, k), model.drop(a, k)); break;
            case 10:
                due("cut(" + a + ", " + k + ", " + b + ")", x.cut(a, k, b), model.cut(a, k, b)); break;
            case 11:
                due("join(" + a + ", " + b + ")", x.join(a, b), model.join(a, b)); break;
            case 12: case 13:
                due("melt(" + a + ", " + b + ")", x.melt(a, b), model.melt(a, b)); break;
            case 14: case 15: {
                int by = by();
                due("shift(" + a + ", " + by + ")", x.shift(a, by), model.shift(a, by)); break;
            }
            case 16: case 17:
                due("move(" + a + ", " + k + ", " + l + ", " + b + ")", x.move(a, k, l, b), model.move(a, k, l, b)); break;
            case 18: case 19:
                due("mark(" + a + ", " + k + ", " + l + ", " + flag + ")", x.mark(a, k, l, flag), model.mark(a, k, l, flag)); break;
            case 20: case 21: case 22:
                due("seek(" + a + ", " + k + ")", x.seek(a, k), model.seek(a, k)); break;
            default:
                due("undo()", x.undo(), model.undo()); break;
        }
    }

    /** A SET gets KEYS that another one has, mostly, and is melted with it: acts by chance seldom make TWINS alone. */
    private void meltTwins() {
        int a = set();
        int b = set();
        int number = key();
        due("seek(" + a + ", " + number + ")", x.seek(a, number), model.seek(a, number));
        for (int n = random.nextInt(4); n > 0; n--) {
            int k = keyOf(a);
            due("put(" + b + ", " + k + ")", x.put(b, k), model.put(b, k));
        }
        boolean back = random.nextInt(4) == 0;
        int to = back ? b : a;
        int of = back ? a : b;
        due("melt(" + to + ", " + of + ")", x.melt(to, of), model.melt(to, of));
        due("set(" + to + ", 6)", x.set(to, 6), model.set(to, 6));
        due("set(" + of + ", 6)", x.set(of, 6), model.set(of, 6));
    }

    /** Mostly a KEY that the SET has. */
    private int keyOf(int set) {
        int n = model.set(set, 0);
        return n <= 0 || random.nextInt(8) == 0 ? key() : model.key(set, random.nextInt(n));
    }

    private void ask() {
        int a = set();
        int b = set();
        int k = keyOf(a);
        int l = keyOf(a);
        boolean flag = random.nextBoolean();
        switch (random.nextInt(17)) {
            case 0: case 1: { int w = what(10); due("set(" + a + ", " + w + ")", x.set(a, w), model.set(a, w)); break; }
            case 2: { int i = what(70); due("key(" + a + ", " + i + ")", x.key(a, i), model.key(a, i)); break; }
            case 3: case 4: { int w = what(7); due("of(" + a + ", " + k + ", " + w + ")", x.of(a, k, w), model.of(a, k, w)); break; }
            case 5: due("within(" + a + ", " + k + ", " + l + ", " + flag + ")", x.within(a, k, l, flag), model.within(a, k, l, flag)); break;
            case 6: due("far(" + a + ", " + k + ", " + l + ")", x.far(a, k, l), model.far(a, k, l)); break;
            case 7: due("where(" + k + ")", x.where(k), model.where(k)); break;
            case 8: { int w = what(7); due("count(" + w + ")", x.count(w), model.count(w)); break; }
            case 9: { int w = what(6); due("pair(" + a + ", " + b + ", " + w + ")", x.pair(a, b, w), model.pair(a, b, w)); break; }
            case 10: { int w = what(2); due("cheapest(" + w + ")", x.cheapest(w), model.cheapest(w)); break; }
            case 11: { int i = what(model.count(0)); due("merged(" + i + ")", x.merged(i), model.merged(i)); break; }
            case 12: due("would(" + a + ", " + k + ", " + flag + ")", x.would(a, k, flag), model.would(a, k, flag)); break;
            case 13: due("halves(" + a + ")", x.halves(a), model.halves(a)); break;
            case 14: due("tell(" + a + ")", x.tell(a), model.tell(a)); break;
            case 15: { int i = what(model.count(7)); due("octet(" + i + ")", x.octet(i), model.octet(i)); break; }
            default: images(); break;
        }
    }

    private void images() {
        int k = what(2);
        if (random.nextBoolean()) {
            due("image(" + k + ")", x.image(k) ? 1 : 0, model.image(k) ? 1 : 0);
        } else {
            due("again(" + k + ")", x.again(k) ? 1 : 0, model.again(k) ? 1 : 0);
        }
    }

    private void feedText() {
        byte[] bytes = makeText().getBytes(StandardCharsets.ISO_8859_1);
        for (int i = 0; i < bytes.length; i += 20) {
            int[] w = new int[5];
            for (int j = 0; j < 20; j++) {
                w[j / 4] = w[j / 4] << 8 | (i + j < bytes.length ? bytes[i + j] & 255 : 32);
            }
            due("feed", x.feed(w[0], w[1], w[2], w[3], w[4]), model.feed(w));
        }
        int n = bytes.length + random.nextInt(3) - 1;
        due("end(" + n + ")", x.end(n), model.end(n));
        if (random.nextInt(6) > 0) {
            due("text()", x.text(), model.text());
            due("fault(0)", x.fault(0), model.fault(0));
            due("fault(1)", x.fault(1), model.fault(1));
        }
    }

    private String makeText() {
        StringBuilder s = new StringBuilder();
        int lines = random.nextInt(12);
        for (int i = 0; i < lines; i++) {
            String word = i == 0 ? "set" : WORDS[random.nextInt(WORDS.length)];
            s.append(word).append(' ').append(random.nextInt(4)).append(' ');
            if (word.equals("set")) {
                items(s);
            } else if (word.equals("mark")) {
                s.append("0 9999");
            } else if (word.equals("cut")) {
                s.append(random.nextInt(span)).append(' ').append(4 + random.nextInt(4));
            } else if (word.equals("join") || word.equals("melt")) {
                s.append(random.nextInt(5));
            } else if (word.equals("shift")) {
                s.append(random.nextBoolean() ? "-" : "").append(random.nextInt(Math.min(span, 30)));
            } else {
                s.append("0 ").append(random.nextInt(span)).append(' ').append(random.nextInt(8));
            }
            s.append(random.nextBoolean() ? ";" : " ;\n");
        }
        return spoil(s);
    }

    private void items(StringBuilder s) {
        int n = random.nextInt(6);
        for (int i = 0; i < n; i++) {
            int first = random.nextInt(span);
            s.append(first);
            if (random.nextInt(3) == 0) {
                s.append(random.nextBoolean() ? "-" : " - ").append(Math.min(9999, first + random.nextInt(random.nextInt(10) == 0 ? 70 : 25)));
            }
            s.append(' ');
        }
    }

    /** Half of the texts get a byte or two that may be wrong. */
    private String spoil(StringBuilder s) {
        String bytes = "set; -0123456789acj\n*\u00ff\t8";
        for (int n = random.nextInt(4) - 1; n > 0 && s.length() > 0; n--) {
            char c = bytes.charAt(random.nextInt(bytes.length()));
            int at = random.nextInt(s.length());
            switch (random.nextInt(3)) {
                case 0: s.insert(at, c); break;
                case 1: s.deleteCharAt(at); break;
                default: s.setCharAt(at, c); break;
            }
        }
        return s.toString();
    }
}
