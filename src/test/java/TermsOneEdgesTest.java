/** Boundary cases of Terms 1: one method for each sentence, whose words stand at its head. */
public final class TermsOneEdgesTest {
    private static final int MIN = Integer.MIN_VALUE;
    private static final int MAX = Integer.MAX_VALUE;

    /** 240 KEYS: four full SETS. */
    private static final String FULL = "set 0 0-59;set 1 60-119;set 2 120-179;set 3 0-59;";
    /** KEYS 55 apart from 1 on: each PRIORITY is 559 less than the one before, so all hang to the right. */
    private static final String RIGHT = Check.line(0, 1, 55, 60);
    /** KEYS 34 apart from 0 on: each PRIORITY is 846 more than the one before, so all hang to the left. */
    private static final String LEFT = Check.line(1, 0, 34, 60);

    public static void main(String[] args) {
        eightSets();
        emptyAtFirst();
        leastAndGreatestKey();
        sixtyInOne();
        twoHundredAndFortyInAll();
        marked();
        rank();
        priorityWrapsAround();
        priorityOfEveryKey();
        noLikePriorities();
        treeOfNoneAndOne();
        treeThatLeansOneWay();
        treeIsItsOwnWhateverWasDone();
        depth();
        high();
        far();
        noFingerAtFirst();
        noFingerByAKeyMore();
        noFingerByAKeyLess();
        fingerStaysOtherwise();
        shiftTakesFingerAlong();
        Sentences.dueAll("Terms 1");
        Check.end("TermsOneEdgesTest");
    }

    private static void eightSets() {
        Sentences.hold("Terms 1", "There are 8 SETS, 0 to 7");
        MeltingHeaps x = new MeltingHeaps();
        for (int set = 0; set < 8; set++) {
            Check.due("put(" + set + ", " + set + ")", x.put(set, set), 0);
        }
        for (int set = 0; set < 8; set++) {
            Check.due("each has its own KEY", x.where(set), 1 << set);
        }
        Check.due("SETS that are not empty", x.count(1), 8);
        for (int set : new int[] {-1, 8, 9, 255, 256, MIN, MIN + 1, MAX}) {
            Check.due("put(" + set + ", 1)", x.put(set, 1), -1);
            Check.due("set(" + set + ", 0)", x.set(set, 0), -1);
        }
    }

    private static void emptyAtFirst() {
        Sentences.hold("Terms 1", "empty at first");
        MeltingHeaps x = new MeltingHeaps();
        for (int set = 0; set < 8; set++) {
            Check.due("set(" + set + ", 0)", x.set(set, 0), 0);
            Check.due("key(" + set + ", 0)", x.key(set, 0), -1);
        }
    }

    private static void leastAndGreatestKey() {
        Sentences.hold("Terms 1", "of KEYS, 0 to 9999");
        MeltingHeaps x = new MeltingHeaps();
        Check.due("put(0, 9999)", x.put(0, 9999), 0);
        Check.due("put(0, 0)", x.put(0, 0), 0);
        Check.due("put(0, -1)", x.put(0, -1), -1);
        Check.due("put(0, 10000)", x.put(0, 10000), -1);
        Check.due("put(0, MIN)", x.put(0, MIN), -1);
        Check.due("put(0, MAX)", x.put(0, MAX), -1);
        Check.due("told", Check.told(x, 0), "0 9999");
    }

    private static void sixtyInOne() {
        Sentences.hold("Terms 1", "60 KEYS at most in one");
        MeltingHeaps x = new MeltingHeaps();
        for (int k = 0; k < 60; k++) {
            Check.due("put a " + (k + 1) + "th", x.put(0, 9999 - k), 0);
        }
        Check.due("put a 61st below", x.put(0, 0), -4);
        Check.due("set(0, 0)", x.set(0, 0), 60);
        x.put(1, 0);
        Check.due("melt a 61st", x.melt(0, 1), -4);
        Check.due("melt to the other one", x.melt(1, 0), -4);
        Check.due("join a 61st", x.join(1, 0), -4);
        Check.due("move a 61st", x.move(1, 0, 0, 0), -4);
        Check.due("cut all to an empty one", x.cut(0, 0, 7), 60);
        Check.due("set(7, 0)", x.set(7, 0), 60);
    }

    private static void twoHundredAndFortyInAll() {
        Sentences.hold("Terms 1", "240 in all");
        MeltingHeaps x = Check.with(FULL);
        Check.due("count(0)", x.count(0), 240);
        Check.due("a 241st to a full one", x.put(0, 99), -4);
        Check.due("a 241st to an empty one", x.put(7, 99), -4);
        Check.due("KEYS that go make no more: cut", x.cut(0, 29, 4), 30);
        Check.due("move", x.move(1, 60, 89, 0), 30);
        Check.due("shift", x.shift(2, 9820), 60);
        Check.due("melt, TWINS go", x.melt(3, 4), 6);
        Check.due("count(0)", x.count(0), 210);
        x = Check.with("set 0 0-29;set 1 0-29;set 2 0-29;set 3 0-29;set 4 0-29;set 5 0-29;set 6 0-29;set 7 0-28;");
        Check.due("a 240th", x.put(7, 9999), 29);
        Check.due("a 241st to a SET with room", x.put(7, 9998), -4);
        Check.due("count(0)", x.count(0), 240);
    }

    private static void marked() {
        Sentences.hold("Terms 1", "A KEY may be MARKED.");
        MeltingHeaps x = Check.with("set 0 0-59;set 1 0 9999;");
        Check.due("none is at first", x.count(3), 0);
        Check.due("all of a full one", x.mark(0, 0, 9999, false), 60);
        Check.due("set(0, 3)", x.set(0, 3), 60);
        Check.due("the greatest KEY", x.mark(1, 9999, 9999, false), 1);
        Check.due("the least KEY of another SET is not", x.of(1, 0, 1), 0);
        Check.due("of(1, 9999, 1)", x.of(1, 9999, 1), 1);
    }

    private static void rank() {
        Sentences.hold("Terms 1", "RANK of a KEY: how many of its SET are below it.");
        MeltingHeaps x = Check.with("set 0 9940-9999;set 1 5;set 2 0;");
        Check.due("the least of a full one", x.of(0, 9940, 0), 0);
        Check.due("the greatest of a full one", x.of(0, 9999, 0), 59);
        Check.due("one alone, others being in other SETS", x.of(1, 5, 0), 0);
    }

    private static void priorityWrapsAround() {
        Sentences.hold("Terms 1", "PRIORITY of a KEY k: (k times 40503, and 9973) modulo 65536");
        MeltingHeaps x = Check.with("set 0 0 1 2 9998 9999;");
        Check.due("of 0", x.of(0, 0, 6), 9973);
        Check.due("of 1, the last below 65536", x.of(0, 1, 6), 40503 + 9973);
        Check.due("of 2, the first that is taken modulo", x.of(0, 2, 6), 2 * 40503 + 9973 - 65536);
        Check.due("of 9999", x.of(0, 9999, 6), (int) ((9999L * 40503 + 9973) % 65536));
    }

    private static void priorityOfEveryKey() {
        Sentences.hold("Terms 1", "PRIORITY of a KEY k: (k times 40503, and 9973) modulo 65536");
        for (int first = 0; first <= 9999; first += 60) {
            int last = Math.min(first + 59, 9999);
            MeltingHeaps x = Check.with("set 5 " + first + "-" + last + ";");
            for (int key = first; key <= last; key++) {
                Check.due("of(5, " + key + ", 6)", x.of(5, key, 6), (int) ((key * 40503L + 9973) % 65536));
            }
        }
    }

    /** That of like ones the lesser KEY is ahead can be seen by nobody: no two KEYS are like, 40503 being odd. */
    private static void noLikePriorities() {
        Sentences.hold("Terms 1", "of two the greater one is ahead, of like ones that of the lesser KEY.");
        boolean[] met = new boolean[65536];
        for (int key = 0; key <= 9999; key++) {
            int priority = (int) ((key * 40503L + 9973) % 65536);
            Check.due("PRIORITY of " + key + " is one of its own", met[priority], false);
            met[priority] = true;
        }
        MeltingHeaps x = Check.with("set 0 0 1;set 1 1 2;");
        Check.due("1 is ahead of 0", x.set(0, 4), 1);
        Check.due("1 is ahead of 2", x.set(1, 4), 1);
    }

    private static void treeOfNoneAndOne() {
        Sentences.hold("Terms 1", "THE TREE of a SET: at its ROOT the KEY that is ahead of all");
        MeltingHeaps x = Check.with("set 1 0;set 2 9999;");
        Check.due("no ROOT", x.set(0, 4), -1);
        Check.due("0 alone", x.set(1, 4), 0);
        Check.due("9999 alone", x.set(2, 4), 9999);
        for (int what = 3; what <= 5; what++) {
            Check.due("above, left and right of one alone", x.of(1, 0, what), -1);
        }
        Check.due("below one alone", x.of(1, 0, 7), 0);
    }

    private static void treeThatLeansOneWay() {
        Sentences.hold("Terms 1", "to its left THE TREE of those below, to its right that of those above.");
        MeltingHeaps x = Check.with(RIGHT + LEFT);
        Check.due("ROOT of those to the right", x.set(0, 4), 1);
        Check.due("ROOT of those to the left", x.set(1, 4), 34 * 59);
        for (int k = 0; k < 60; k++) {
            int right = 1 + 55 * k;
            Check.due("right of " + right, x.of(0, right, 5), k < 59 ? right + 55 : -1);
            Check.due("left of " + right, x.of(0, right, 4), -1);
            int left = 34 * k;
            Check.due("left of " + left, x.of(1, left, 4), k > 0 ? left - 34 : -1);
            Check.due("right of " + left, x.of(1, left, 5), -1);
        }
    }

    /** From the ROOT down: the KEY that is ahead of all from one RANK to another one, and so on to both sides. */
    private static int dueTree(MeltingHeaps x, int set, int[] keys, int from, int last, int above) {
        if (from > last) {
            return -1;
        }
        int root = from;
        for (int rank = from; rank <= last; rank++) {
            if (x.of(set, keys[rank], 6) > x.of(set, keys[root], 6)) {
                root = rank;
            }
        }
        int left = dueTree(x, set, keys, from, root - 1, keys[root]);
        int right = dueTree(x, set, keys, root + 1, last, keys[root]);
        Check.due("above " + keys[root], x.of(set, keys[root], 3), above);
        Check.due("left of " + keys[root], x.of(set, keys[root], 4), left);
        Check.due("right of " + keys[root], x.of(set, keys[root], 5), right);
        Check.due("below " + keys[root], x.of(set, keys[root], 7), last - from);
        return keys[root];
    }

    private static void dueTreeOf(MeltingHeaps x, int set) {
        int[] keys = new int[x.set(set, 0)];
        for (int k = 0; k < keys.length; k++) {
            keys[k] = x.key(set, k);
        }
        Check.due("ROOT", x.set(set, 4), dueTree(x, set, keys, 0, keys.length - 1, -1));
    }

    private static void treeIsItsOwnWhateverWasDone() {
        Sentences.hold("Terms 1", "THE TREE of a SET: at its ROOT the KEY that is ahead of all");
        MeltingHeaps x = Check.with("set 0 0-9 30-49 9990-9999;set 1 10-29;");
        dueTreeOf(x, 0);
        x.melt(0, 1);
        dueTreeOf(x, 0);
        x.cut(0, 25, 2);
        dueTreeOf(x, 0);
        dueTreeOf(x, 2);
        x.shift(0, 9974);
        dueTreeOf(x, 0);
        x.undo();
        x.undo();
        dueTreeOf(x, 0);
        dueTreeOf(Check.with(RIGHT), 0);
        dueTreeOf(Check.with(LEFT), 1);
    }

    private static void depth() {
        Sentences.hold("Terms 1", "DEPTH of a KEY: how many are above it on its way to the ROOT.");
        MeltingHeaps x = Check.with(RIGHT + LEFT + "set 2 0;");
        Check.due("of one alone", x.of(2, 0, 2), 0);
        Check.due("of the ROOT", x.of(0, 1, 2), 0);
        Check.due("of the lowest at the right", x.of(0, 1 + 55 * 59, 2), 59);
        Check.due("of the lowest at the left", x.of(1, 0, 2), 59);
    }

    private static void high() {
        Sentences.hold("Terms 1", "HIGH: how many are on the longest way from the ROOT down (0 of none).");
        MeltingHeaps x = Check.with(RIGHT + LEFT + "set 2 0;set 3 0 1;");
        Check.due("of none", x.set(4, 5), 0);
        Check.due("of one", x.set(2, 5), 1);
        Check.due("of two", x.set(3, 5), 2);
        Check.due("to the right alone", x.set(0, 5), 60);
        Check.due("to the left alone", x.set(1, 5), 60);
    }

    private static void far() {
        Sentences.hold("Terms 1", "FAR are two KEYS of a SET: how many steps there are from one to the other in THE TREE.");
        // 6(1(0, 4(2(, 3), 5)),)
        MeltingHeaps x = Check.with(RIGHT + "set 1 0-6;");
        Check.due("a KEY from itself", x.far(1, 3, 3), 0);
        Check.due("the ROOT from itself", x.far(1, 6, 6), 0);
        Check.due("one right above", x.far(1, 2, 3), 1);
        Check.due("two by one above both", x.far(1, 3, 5), 3);
        Check.due("the longest way", x.far(0, 1, 1 + 55 * 59), 59);
        Check.due("and back", x.far(0, 1 + 55 * 59, 1), 59);
    }

    private static void noFingerAtFirst() {
        Sentences.hold("Terms 1", "A SET has a FINGER: one of its KEYS, or none (at first");
        MeltingHeaps x = Check.with("set 0 0-59;");
        for (int set = 0; set < 8; set++) {
            Check.due("of a new object", new MeltingHeaps().set(set, 6), -1);
            Check.due("behind a text", x.set(set, 6), -1);
        }
        Check.due("the first SEEK, from none", x.seek(0, 59), 0);
        Check.due("one of its KEYS", x.set(0, 6), 59);
        Check.due("those of the others stay none", x.set(1, 6), -1);
    }

    /** SET 0 has a FINGER at 20, SET 1 one at 40. */
    private static MeltingHeaps fingered() {
        MeltingHeaps x = Check.with("set 0 10 20;set 1 30 40;set 3 10 20;");
        x.seek(0, 20);
        x.seek(1, 40);
        return x;
    }

    private static void noFingerByAKeyMore() {
        Sentences.hold("Terms 1", "and whenever the SET gets");
        MeltingHeaps x = fingered();
        x.put(0, 0);
        Check.due("PUT", x.set(0, 6), -1);
        x = fingered();
        x.join(0, 1);
        Check.due("JOIN", x.set(0, 6), -1);
        x = fingered();
        x.melt(0, 1);
        Check.due("MELT", x.set(0, 6), -1);
        x = fingered();
        x.move(1, 30, 30, 0);
        Check.due("MOVE", x.set(0, 6), -1);
        x = fingered();
        x.drop(0, 20);
        x.put(0, 20);
        Check.due("the KEY at which it was is back", x.set(0, 6), -1);
    }

    private static void noFingerByAKeyLess() {
        Sentences.hold("Terms 1", "or loses any KEY");
        MeltingHeaps x = fingered();
        x.drop(0, 10);
        Check.due("DROP of another KEY", x.set(0, 6), -1);
        x = fingered();
        x.drop(0, 20);
        Check.due("DROP of its KEY", x.set(0, 6), -1);
        x = fingered();
        x.cut(1, 30, 2);
        Check.due("CUT", x.set(1, 6), -1);
        Check.due("it does not go with its KEY", x.set(2, 6), -1);
        x = fingered();
        x.join(0, 1);
        Check.due("JOIN", x.set(1, 6), -1);
        x = fingered();
        x.melt(0, 1);
        Check.due("MELT", x.set(1, 6), -1);
        x = fingered();
        x.seek(3, 10);
        x.melt(0, 3);
        Check.due("MELT of TWINS", x.set(3, 6), -1);
        x = fingered();
        x.move(1, 30, 30, 0);
        Check.due("MOVE of another KEY", x.set(1, 6), -1);
    }

    private static void fingerStaysOtherwise() {
        Sentences.hold("Terms 1", "and whenever the SET gets or loses any KEY");
        MeltingHeaps x = fingered();
        Check.due("MELT of TWINS alone", x.melt(0, 3), 2);
        Check.due("MARK", x.mark(0, 0, 9999, false), 2);
        Check.due("an ACT that is REFUSED", x.put(0, 10), -2);
        Check.due("too many", x.join(0, 7), -2);
        Check.due("an ACT on other SETS", x.drop(1, 40), 1);
        Check.due("the FINGER stays", x.set(0, 6), 20);
        Check.due("a text with a FAULT", Check.text(x, "set 0 1"), -1);
        Check.due("the FINGER stays", x.set(0, 6), 20);
    }

    private static void shiftTakesFingerAlong() {
        Sentences.hold("Terms 1", "SHIFT takes it along).");
        MeltingHeaps x = fingered();
        x.shift(0, -10);
        Check.due("to the least", x.set(0, 6), 10);
        x.seek(0, 0);
        x.shift(0, 9989);
        Check.due("as far as it goes", x.set(0, 6), 9989);
        x.shift(0, -9989);
        Check.due("a FINGER at KEY 0", x.set(0, 6), 0);
        x.shift(0, -1);
        Check.due("not by one that is REFUSED", x.set(0, 6), 0);
        Check.due("not that of another SET", x.set(1, 6), 40);
        x.drop(0, 10);
        x.shift(0, 5);
        Check.due("none stays none", x.set(0, 6), -1);
    }
}
