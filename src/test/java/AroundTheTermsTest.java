import java.util.ArrayList;
import java.util.Arrays;
import java.util.List;
import java.util.Random;
import java.util.TreeSet;
import java.util.function.IntSupplier;

/** What the document says ahead of its Terms and right behind them: a method a sentence, whose words stand at its head. */
public final class AroundTheTermsTest {
    private static final int CALLS = 512;
    private static final String FULL = "set 0 0-59;set 1 0-59;set 2 0-59;set 3 60-119;";

    public static void main(String[] args) {
        keptInOrder();
        cutOff();
        joinedEndToEnd();
        meltedRunByRun();
        treeOfItsOwn();
        fingerToSeekFrom();
        reckonedAheadOfMelts();
        wholeHeapsAndStretches();
        toldUndoneImages();
        fiveHundredAndTwelveCalls();
        none();
        actsAnswerTheReason();
        askingChangesNothing();
        whatWouldBeIsWhatThenIs();
        told();
        Sentences.dueAll("What it is");
        Sentences.dueAll("Behind the Terms");
        Check.end("AroundTheTermsTest");
    }

    // ---- what it is

    private static void keptInOrder() {
        Sentences.hold("What it is", "Heaps of numbered keys kept in order");
        MeltingHeaps x = new MeltingHeaps();
        TreeSet<Integer> keys = new TreeSet<>();
        for (int k = 0; k < 60; k++) {
            int key = k * 7919 % 10000;
            keys.add(key);
            Check.due("put(5, " + key + ")", x.put(5, key), keys.headSet(key).size());
        }
        List<Integer> order = new ArrayList<>(keys);
        for (int k = 0; k < 60; k++) {
            Check.due("key(5, " + k + ")", x.key(5, k), order.get(k));
        }
    }

    private static void cutOff() {
        Sentences.hold("What it is", "moved in bulk: all above a key cut off");
        MeltingHeaps x = Check.with("set 0 2-9;mark 0 6 7;");
        Check.due("cut(0, 5, 1)", x.cut(0, 5, 1), 4);
        Check.due("told", Check.told(x, 0) + "|" + Check.told(x, 1), "2-5|6* 7* 8 9");
    }

    private static void joinedEndToEnd() {
        Sentences.hold("What it is", "heaps joined end to end");
        MeltingHeaps x = Check.with("set 0 1-3;set 1 4-6 8;mark 1 8 8;");
        Check.due("join(1, 0)", x.join(1, 0), -3);
        Check.due("join(0, 1)", x.join(0, 1), 7);
        Check.due("told", Check.told(x, 0) + "|" + Check.told(x, 1), "1-6 8*|");
    }

    private static void meltedRunByRun() {
        Sentences.hold("What it is", "interleaved ones melted run by run");
        MeltingHeaps x = Check.with("set 0 0-7 100;set 1 20-23 200;");
        Check.due("RUNS of 8, 4, 1 and 1 KEYS", x.pair(0, 1, 0), 4);
        Check.due("melt(0, 1)", x.melt(0, 1), 4 + 3 + 1 + 1);
        Check.due("told", Check.told(x, 0) + "|" + Check.told(x, 1), "0-7 20-23 100 200|");
    }

    /** Told by all that can be asked of THE TREE. */
    private static String treeOf(MeltingHeaps x, int set) {
        StringBuilder s = new StringBuilder();
        for (int what : new int[] {4, 5, 8}) {
            s.append(x.set(set, what)).append(' ');
        }
        for (int k = 0; k < x.set(set, 0); k++) {
            for (int what : new int[] {2, 3, 4, 5, 7}) {
                s.append(x.of(set, x.key(set, k), what)).append(' ');
            }
        }
        return s.toString();
    }

    private static void treeOfItsOwn() {
        Sentences.hold("What it is", "a tree that each heap has of its own, whatever was done");
        MeltingHeaps plain = Check.with("set 0 3 5 8-12 40 41;");
        String due = treeOf(plain, 0);
        MeltingHeaps backwards = new MeltingHeaps();
        for (int key : new int[] {41, 40, 12, 11, 10, 9, 8, 5, 3}) {
            backwards.put(7, key);
        }
        Check.due("the greatest first", treeOf(backwards, 7), due);
        Check.due("melted", treeOf(Check.with("set 1 3 8 10 12 41;set 2 5 9 11 40 41;melt 1 2;"), 1), due);
        Check.due("cut, joined and shifted", treeOf(Check.with("set 4 2 4 7-11 39 40;cut 4 8 5;join 4 5;shift 4 1;"), 4), due);
        MeltingHeaps moved = Check.with("set 3 1 3 5 8-12 40 41 77;");
        moved.move(3, 2, 50, 6);
        moved.put(6, 6);
        moved.undo();
        moved.put(6, 60);
        moved.drop(6, 60);
        moved.mark(6, 0, 9999, false);
        moved.seek(6, 9);
        Check.due("moved, undone, put and dropped", treeOf(moved, 6), due);
    }

    private static void fingerToSeekFrom() {
        Sentences.hold("What it is", "a finger in each from which one seeks");
        MeltingHeaps x = Check.with("set 0 0-9;set 1 0-9;");
        Check.due("seek(0, 2) from none", x.seek(0, 2), 0);
        Check.due("seek(1, 9) from none", x.seek(1, 9), 0);
        for (int key = 0; key < 10; key++) {
            int from = x.set(0, 6);
            Check.due("seek(0, " + key + ")", x.seek(0, key), x.far(0, from, key));
            Check.due("the other one's is where it was", x.set(1, 6), 9);
        }
    }

    private static void reckonedAheadOfMelts() {
        Sentences.hold("What it is", "runs, twins and what a melt costs, which two melt cheapest, in which order all would");
        MeltingHeaps x = Check.with("set 1 10 12 14 16;set 4 11 13 14 15;set 6 500-507;");
        Check.due("RUNS of 1 KEY each, the TWIN with the first SET's", x.pair(1, 4, 0), 7);
        Check.due("TWINS", x.pair(1, 4, 1), 1);
        Check.due("COST", x.pair(1, 4, 2), 7);
        Check.due("COST of RUNS of 4 and 8 KEYS", x.pair(1, 6, 2), 3 + 4);
        Check.due("cheapest(0)", x.cheapest(0), 1);
        Check.due("cheapest(1), of like ones the first", x.cheapest(1), 4);
        Check.due("cheapest(2)", x.cheapest(2), 7);
        Check.due("HUFFMAN, 4 and 4, then 8 and 8", x.count(6), 8 + 16);
    }

    private static void wholeHeapsAndStretches() {
        Sentences.hold("What it is", "whole heaps shifted, stretches moved, keys marked all at once");
        MeltingHeaps x = Check.with("set 0 1-9;");
        Check.due("shift(0, 90)", x.shift(0, 90), 9);
        Check.due("move(0, 93, 95, 2)", x.move(0, 93, 95, 2), 3);
        Check.due("mark(0, 0, 97, false)", x.mark(0, 0, 97, false), 4);
        Check.due("told", Check.told(x, 0) + "|" + Check.told(x, 2), "91* 92* 96* 97* 98 99|93-95");
    }

    private static void toldUndoneImages() {
        Sentences.hold("What it is", "told as texts and by texts, undone, images.");
        MeltingHeaps x = Check.with("set 0 1-9 11;");
        Check.due("told", Check.told(x, 0), "1-9 11");
        MeltingHeaps other = Check.with("set 0 " + Check.told(x, 0) + ";");
        Check.due("told by what was told", Check.told(other, 0), "1-9 11");
        x.image(1);
        x.drop(0, 5);
        Check.due("undo()", x.undo(), 0);
        Check.due("told", Check.told(x, 0), "1-9 11");
        x.drop(0, 6);
        Check.due("again(1)", x.again(1), true);
        Check.due("told", Check.told(x, 0), "1-9 11");
    }

    private static void fiveHundredAndTwelveCalls() {
        Sentences.hold("What it is", "An object is used for at most 512 calls after it has been made; what later calls answer is free.");
        MeltingHeaps x = new MeltingHeaps();
        for (int call = 1; call <= CALLS; call++) {
            Check.due("put, call " + call, x.put(call % 8, call), call <= 240 ? (call - 1) / 8 : -4);
        }
        MeltingHeaps seeking = new MeltingHeaps();
        seeking.put(0, 5);
        for (int call = 2; call < CALLS; call++) {
            Check.due("seek, call " + call, seeking.seek(0, call), 0);
        }
        Check.due("undo, call 512", seeking.undo(), 11);
        MeltingHeaps feeding = new MeltingHeaps();
        for (int call = 1; call < CALLS; call += 2) {
            Check.due("feed, call " + call, feeding.feed(0, 0, 0, 0, 0), 20);
            Check.due("text, call " + (call + 1), feeding.text(), -1);
        }
        MeltingHeaps imaging = new MeltingHeaps();
        for (int call = 1; call <= CALLS; call += 4) {
            Check.due("put, call " + call, imaging.put(3, call), 0);
            Check.due("image, call " + (call + 1), imaging.image(call % 3), true);
            Check.due("drop, call " + (call + 2), imaging.drop(3, call), 0);
            Check.due("count, call " + (call + 3), imaging.count(4), Math.min(12, (call + 3) / 2));
        }
    }

    // ---- behind the Terms

    private static void none() {
        Sentences.hold("Behind the Terms", "The constants: `NONE = -1`: There is none.");
        MeltingHeaps x = new MeltingHeaps();
        Check.due("NONE", MeltingHeaps.NONE, -1);
        int[] answers = {x.end(1), x.fault(1), x.undo(), x.set(0, 1), x.key(0, 0), x.of(0, 0, 0), x.within(8, 0, 0, false),
            x.far(0, 0, 0), x.count(8), x.pair(0, 0, 0), x.cheapest(0), x.merged(0), x.would(0, 0, true), x.halves(0), x.tell(8), x.octet(0)};
        for (int answer : answers) {
            Check.due("there is none", answer, MeltingHeaps.NONE);
        }
    }

    /** That an ACT is REFUSED for a reason, and changes nothing by that. */
    private static void refused(MeltingHeaps x, String act, IntSupplier call, int reason) {
        String before = Check.print(x);
        Check.due(act, call.getAsInt(), 0 - reason);
        Check.due("what is behind " + act, Check.print(x), before);
    }

    private static void actsAnswerTheReason() {
        Sentences.hold("Behind the Terms", "Ahead of the calls `put`, `drop`, `cut`, `join`, `melt`, `shift`, `move`, `mark`, `seek`, "
                + "`undo` the interface says: ---- acts: a number as told, or, REFUSED, 0 less the reason.");
        MeltingHeaps x = Check.with(FULL);
        refused(x, "undo of none", () -> x.undo(), 1);
        x.seek(0, 30);
        x.seek(1, 10);
        refused(x, "put to no SET", () -> x.put(8, 1), 1);
        refused(x, "put what is there", () -> x.put(0, 1), 2);
        refused(x, "put a 61st", () -> x.put(0, 60), 4);
        refused(x, "put a 241st", () -> x.put(4, 1), 4);
        refused(x, "drop no KEY", () -> x.drop(0, -1), 1);
        refused(x, "drop what is not there", () -> x.drop(0, 60), 2);
        refused(x, "cut to itself", () -> x.cut(0, 5, 0), 1);
        refused(x, "cut none", () -> x.cut(0, 59, 1), 2);
        refused(x, "cut to one that is not empty", () -> x.cut(0, 58, 1), 3);
        refused(x, "join to itself", () -> x.join(0, 0), 1);
        refused(x, "join an empty one", () -> x.join(0, 4), 2);
        refused(x, "join one that is not above", () -> x.join(0, 1), 3);
        refused(x, "join too many", () -> x.join(0, 3), 4);
        refused(x, "melt to itself", () -> x.melt(0, 0), 1);
        refused(x, "melt an empty one", () -> x.melt(0, 4), 2);
        refused(x, "melt too many", () -> x.melt(0, 3), 4);
        refused(x, "shift by 10000", () -> x.shift(0, 10000), 1);
        refused(x, "shift by 0", () -> x.shift(0, 0), 2);
        refused(x, "shift below 0", () -> x.shift(0, -1), 3);
        refused(x, "move to itself", () -> x.move(0, 0, 1, 0), 1);
        refused(x, "move none", () -> x.move(0, 1, 0, 1), 2);
        refused(x, "move among some", () -> x.move(0, 1, 2, 1), 3);
        refused(x, "move too many", () -> x.move(0, 1, 2, 3), 4);
        refused(x, "mark to no KEY", () -> x.mark(0, 0, 10000, false), 1);
        refused(x, "mark none", () -> x.mark(0, 0, 9999, true), 2);
        refused(x, "seek in no SET", () -> x.seek(-1, 0), 1);
        refused(x, "seek in an empty one", () -> x.seek(4, 0), 2);
        Check.due("the two that were not REFUSED", x.undo(), 1);
    }

    /** All that can be asked, with numbers at random. */
    private static void ask(MeltingHeaps x, Random random) {
        for (int what = -1; what <= 11; what++) {
            int set = random.nextInt(10) - 1;
            int other = random.nextInt(10) - 1;
            int key = random.nextInt(80) - 5;
            x.set(set, what);
            x.key(set, key);
            x.of(set, key, what);
            x.within(set, key, key + 9, what > 5);
            x.far(set, key, key + what);
            x.where(key);
            x.count(what);
            x.pair(set, other, what);
            x.cheapest(what);
            x.merged(key);
            x.would(set, key, what > 5);
            x.halves(set);
            x.octet(key);
            x.fault(what);
        }
    }

    private static void askingChangesNothing() {
        Sentences.hold("Behind the Terms", "Ahead of the calls `set`, `key`, `of`, `within`, `far`, `where`, `count` the interface says: "
                + "---- what there is.");
        Random random = new Random(5);
        MeltingHeaps x = Check.with("set 0 0-20;set 1 10-40;set 2 35-60;mark 1 15 20;");
        x.seek(1, 33);
        x.drop(0, 3);
        x.tell(1);
        Check.feed(x, "set");
        String before = Check.print(x);
        ask(x, random);
        ask(x, random);
        Check.due("what is behind all that was asked", Check.print(x), before);
        Check.due("what was TOLD", x.octet(0), '1');
        Check.due("KEYS", Check.told(x, 0) + "|" + Check.told(x, 1) + "|" + Check.told(x, 2), "0-2 4-20|10-14 15-20* 21-40|35-60");
    }

    private static void whatWouldBeIsWhatThenIs() {
        Sentences.hold("Behind the Terms", "Ahead of the calls `pair`, `cheapest`, `merged`, `would`, `halves` the interface says: "
                + "---- what would be.");
        Random random = new Random(8);
        for (int round = 0; round < 60; round++) {
            MeltingHeaps x = new MeltingHeaps();
            for (int k = 0; k < 150; k++) {
                x.put(random.nextInt(3), random.nextInt(round % 2 == 0 ? 90 : 9999));
            }
            wouldIsHigh(x, random.nextInt(3), random.nextInt(90));
            int to = random.nextInt(4);
            int of = (to + 1 + random.nextInt(3)) % 4;
            int cost = x.pair(to, of, 2);
            boolean may = x.pair(to, of, 6) == 1;
            int melted = x.melt(to, of);
            Check.due("whether it may be MELTED", melted > 0, may);
            Check.due("COST", melted > 0 ? melted : cost, cost);
            x.undo();
            halvesIsCut(x, random.nextInt(3));
        }
    }

    private static void wouldIsHigh(MeltingHeaps x, int set, int key) {
        boolean there = x.of(set, key, 0) != -1;
        int would = x.would(set, key, there);
        int answer = there ? x.drop(set, key) : x.put(set, key);
        if (answer >= 0) {
            Check.due("HIGH", x.set(set, 5), would);
            x.undo();
        }
    }

    private static void halvesIsCut(MeltingHeaps x, int set) {
        int size = x.set(set, 0);
        if (size > 1) {
            Check.due("CUT above halves", x.cut(set, x.halves(set), 7), size / 2);
            Check.due("what it leaves", x.set(set, 0), size - size / 2);
            x.undo();
        }
    }

    private static void told() {
        Sentences.hold("Behind the Terms", "Ahead of the calls `tell`, `octet`, `image`, `again` the interface says: ---- told.");
        MeltingHeaps x = Check.with("set 2 7-9 9999;mark 2 9 9;");
        Check.due("tell(2)", x.tell(2), "7 8 9* 9999".length());
        int[] octets = new int[12];
        Arrays.setAll(octets, x::octet);
        Check.due("octets", Arrays.toString(octets), Arrays.toString(new int[] {55, 32, 56, 32, 57, 42, 32, 57, 57, 57, 57, -1}));
        Check.due("image(2)", x.image(2), true);
        Check.due("tell(0)", x.tell(0), 0);
        Check.due("again(2)", x.again(2), true);
        Check.due("count(7)", x.count(7), 11);
    }
}
