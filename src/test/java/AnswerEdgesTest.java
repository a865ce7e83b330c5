/** Boundary cases of promises 16 to 31: a method a sentence, whose words stand at its head. */
public final class AnswerEdgesTest {
    private static final int MIN = Integer.MIN_VALUE;
    private static final int MAX = Integer.MAX_VALUE;
    private static final int[] NO_SETS = {-1, 8, MIN, MAX};
    private static final String FULL = "set 0 0-59;set 1 0-59;set 2 0-59;set 3 0-59;";

    public static void main(String[] args) {
        set();
        setOfNone();
        key();
        noKey();
        of();
        ofNone();
        within();
        withinNoSet();
        far();
        where();
        count();
        countOfNone();
        pair();
        pairOfNone();
        cheapest();
        merged();
        would();
        wouldNot();
        halves();
        tell();
        octet();
        image();
        again();
        for (int promise = 16; promise <= 31; promise++) {
            Sentences.dueAll("Promise " + promise);
        }
        Check.end("AnswerEdgesTest");
    }

    // ---- promises 16 to 22

    private static void dueSet(String why, MeltingHeaps x, int set, int... answers) {
        for (int what = 0; what < answers.length; what++) {
            Check.due(why + ", set(" + set + ", " + what + ")", x.set(set, what), answers[what]);
        }
    }

    private static void set() {
        Sentences.hold("Promise 16", "Of a SET, what 0: how many KEYS, 1: the least, 2: the greatest, 3: MARKED ones, 4: its ROOT, 5: HIGH, "
                + "6: its FINGER, 7: the least difference of two, 8: all DEPTHS together, "
                + "9: how many stretches of KEYS that follow one another by 1, 10: all KEYS together.");
        MeltingHeaps x = Check.with("set 0;set 1 0;set 2 0 9999;set 3 7 8;set 4 9940-9999;mark 4 0 9999;" + Check.line(5, 0, 2, 60));
        x.seek(2, 9998);
        dueSet("none", x, 0, 0, -1, -1, 0, -1, 0, -1, -1, 0, 0, 0);
        dueSet("KEY 0 alone", x, 1, 1, 0, 0, 0, 0, 1, -1, -1, 0, 1, 0);
        // PRIORITY of 0 is 9973, of 9999 52526, of 7 31350, of 8 6317
        dueSet("as far apart as can be", x, 2, 2, 0, 9999, 0, 9999, 2, 0, 9999, 1, 2, 9999);
        dueSet("side by side", x, 3, 2, 7, 8, 0, 7, 2, -1, 1, 1, 1, 15);
        dueSet("full, at the end", x, 4, 60, 9940, 9999, 60);
        Check.due("one stretch of 60", x.set(4, 9), 1);
        Check.due("the greatest sum", x.set(4, 10), 30 * (9940 + 9999));
        Check.due("60 stretches of one", x.set(5, 9), 60);
        Check.due("least difference", x.set(5, 7), 2);
        x = Check.with("set 0 0 10 19 29;set 1 0 10 20 29;set 2 0 9 19 29;" + Check.line(3, 1, 55, 60));
        Check.due("the least difference in the middle", x.set(0, 7), 9);
        Check.due("at the end", x.set(1, 7), 9);
        Check.due("at the beginning", x.set(2, 7), 9);
        Check.due("all DEPTHS of the deepest", x.set(3, 8), 59 * 60 / 2);
    }

    private static void setOfNone() {
        Sentences.hold("Promise 16", "NONE: none such, no such SET, another what.");
        MeltingHeaps x = Check.with("set 0 5;");
        for (int what : new int[] {1, 2, 4, 6, 7}) {
            Check.due("none such, set(1, " + what + ")", x.set(1, what), -1);
        }
        Check.due("no FINGER", x.set(0, 6), -1);
        Check.due("no two KEYS", x.set(0, 7), -1);
        for (int no : NO_SETS) {
            for (int what = -1; what <= 11; what++) {
                Check.due("set(" + no + ", " + what + ")", x.set(no, what), -1);
            }
        }
        for (int what : new int[] {-1, 11, 12, MIN, MAX}) {
            Check.due("set(0, " + what + ")", x.set(0, what), -1);
            Check.due("set(1, " + what + ")", x.set(1, what), -1);
        }
    }

    private static void key() {
        Sentences.hold("Promise 17", "The k-th KEY of a SET (from 0).");
        MeltingHeaps x = Check.with("set 0 0-59;set 7 9999;");
        Check.due("the first, KEY 0", x.key(0, 0), 0);
        Check.due("the last of a full one", x.key(0, 59), 59);
        Check.due("the first of the last SET", x.key(7, 0), 9999);
    }

    private static void noKey() {
        Sentences.hold("Promise 17", "NONE: not so many, no such SET.");
        MeltingHeaps x = Check.with("set 0 0-59;set 1 5;");
        x.drop(0, 59);
        for (int k : new int[] {-1, 59, 60, 61, MIN, MAX}) {
            Check.due("key(0, " + k + ")", x.key(0, k), -1);
        }
        Check.due("key(1, 1)", x.key(1, 1), -1);
        Check.due("key(2, 0)", x.key(2, 0), -1);
        for (int no : NO_SETS) {
            Check.due("key(" + no + ", 0)", x.key(no, 0), -1);
        }
    }

    private static void dueOf(String why, MeltingHeaps x, int set, int key, int... answers) {
        for (int what = 0; what < answers.length; what++) {
            Check.due(why + ", of(" + set + ", " + key + ", " + what + ")", x.of(set, key, what), answers[what]);
        }
    }

    private static void of() {
        Sentences.hold("Promise 18", "Of a KEY in a SET, what 0: RANK, 1: 1 if it is MARKED, else 0, 2: DEPTH, 3: what is right above it in THE TREE, "
                + "4, 5: what is right below it at the left, right (NONE each without), 6: PRIORITY, 7: how many are below it in THE TREE.");
        // 6(1(0, 4(2(, 3), 5)),)
        MeltingHeaps x = Check.with("set 0 0-6;mark 0 0 0;mark 0 6 6;set 1 0;" + Check.line(2, 1, 55, 60) + Check.line(3, 0, 34, 60));
        dueOf("alone", x, 1, 0, 0, 0, 0, -1, -1, -1, 9973, 0);
        dueOf("a ROOT with a left alone", x, 0, 6, 6, 1, 0, -1, 1, -1, 56383, 6);
        dueOf("both, KEY 0 being the left", x, 0, 1, 1, 0, 1, 6, 0, 4, 50476, 5);
        dueOf("a right alone", x, 0, 2, 2, 0, 3, 4, -1, 3, 25443, 1);
        dueOf("neither", x, 0, 0, 0, 1, 2, 1, -1, -1, 9973, 0);
        dueOf("59 below it at the right", x, 2, 1, 0, 0, 0, -1, -1, 56, 50476, 59);
        dueOf("59 above it", x, 2, 3246, 59, 0, 59, 3191, -1, -1, 50476 - 59 * 559, 0);
        dueOf("59 below it at the left", x, 3, 2006, 59, 0, 0, -1, 1972, -1, 9973 + 59 * 846, 59);
        dueOf("KEY 0, 59 above it", x, 3, 0, 0, 0, 59, 34, -1, -1, 9973, 0);
    }

    private static void ofNone() {
        Sentences.hold("Promise 18", "NONE: it is not there, others.");
        MeltingHeaps x = Check.with("set 0 0 5 9999;set 1 6;");
        for (int what = -1; what <= 8; what++) {
            for (int key : new int[] {-1, 1, 4, 6, 9998, 10000, MIN, MAX}) {
                Check.due("of(0, " + key + ", " + what + ")", x.of(0, key, what), -1);
            }
            for (int no : NO_SETS) {
                Check.due("of(" + no + ", 5, " + what + ")", x.of(no, 5, what), -1);
            }
            Check.due("of(2, 0, " + what + ") of an empty one", x.of(2, 0, what), -1);
        }
        for (int what : new int[] {-1, 8, 9, MIN, MAX}) {
            Check.due("of(0, 5, " + what + ")", x.of(0, 5, what), -1);
        }
    }

    private static void within() {
        Sentences.hold("Promise 19", "How many KEYS of a SET are from a number to another one, or (marked) MARKED ones.");
        MeltingHeaps x = Check.with("set 0 0 5 6 9999;mark 0 5 5;mark 0 9999 9999;set 1 0-59;mark 1 0 59;");
        int[][] rows = {{0, 9999, 4, 2}, {0, 0, 1, 0}, {9999, 9999, 1, 1}, {5, 6, 2, 1}, {1, 4, 0, 0}, {4, 7, 2, 1}, {6, 9998, 1, 0},
            {6, 5, 0, 0}, {9999, 0, 0, 0}, {MIN, MAX, 4, 2}, {MAX, MIN, 0, 0}, {-5, -1, 0, 0}, {-1, 0, 1, 0}, {9999, 10000, 1, 1},
            {10000, MAX, 0, 0}, {MIN, 5, 2, 1}, {6, MAX, 2, 1}};
        for (int[] row : rows) {
            Check.due("within(0, " + row[0] + ", " + row[1] + ")", x.within(0, row[0], row[1], false), row[2]);
            Check.due("within(0, " + row[0] + ", " + row[1] + ", marked)", x.within(0, row[0], row[1], true), row[3]);
        }
        Check.due("a full one", x.within(1, 0, 59, false), 60);
        Check.due("a full one, MARKED", x.within(1, 0, 59, true), 60);
        Check.due("an empty one", x.within(7, 0, 9999, false), 0);
        Check.due("an empty one, MARKED", x.within(7, 0, 9999, true), 0);
    }

    private static void withinNoSet() {
        Sentences.hold("Promise 19", "NONE: no such SET.");
        MeltingHeaps x = Check.with("set 0 0;set 7 0;");
        for (int no : NO_SETS) {
            Check.due("within(" + no + ")", x.within(no, 0, 9999, false), -1);
            Check.due("within(" + no + ", marked)", x.within(no, 0, 9999, true), -1);
        }
    }

    private static void far() {
        Sentences.hold("Promise 20", "How FAR two KEYS of a SET are.");
        MeltingHeaps x = Check.with("set 0 0;" + Check.line(1, 1, 55, 60) + "set 2 0-6;");
        Check.due("one alone, to itself", x.far(0, 0, 0), 0);
        Check.due("end to end", x.far(1, 1, 3246), 59);
        Check.due("by the ROOT's left", x.far(2, 0, 5), 3);
        Check.due("the least and the greatest", x.far(2, 0, 6), 2);
        Sentences.hold("Promise 20", "NONE: there are none such.");
        Check.due("the first is not there", x.far(2, 7, 0), -1);
        Check.due("the second is not", x.far(2, 0, 7), -1);
        Check.due("neither, the same", x.far(2, 7, 7), -1);
        Check.due("they are in another SET", x.far(0, 1, 2), -1);
        Check.due("an empty one", x.far(7, 0, 0), -1);
        for (int no : new int[] {-1, 10000, MIN, MAX}) {
            Check.due("far(0, 0, " + no + ")", x.far(0, 0, no), -1);
            Check.due("far(0, " + no + ", 0)", x.far(0, no, 0), -1);
        }
        for (int no : NO_SETS) {
            Check.due("far(" + no + ", 0, 0)", x.far(no, 0, 0), -1);
        }
    }

    private static void where() {
        Sentences.hold("Promise 21", "SETS that have a KEY, as bits.");
        StringBuilder all = new StringBuilder();
        for (int set = 0; set < 8; set++) {
            all.append("set ").append(set).append(" 0 9999 ").append(10 + set).append(';');
        }
        MeltingHeaps x = Check.with(all.toString());
        Check.due("all", x.where(0), 255);
        Check.due("all", x.where(9999), 255);
        Check.due("the first alone", x.where(10), 1);
        Check.due("the last alone", x.where(17), 128);
        for (int no : new int[] {1, 9, 18, -1, 10000, MIN, MAX}) {
            Check.due("none, where(" + no + ")", x.where(no), 0);
        }
        Check.due("a new object", new MeltingHeaps().where(0), 0);
    }

    private static void count() {
        Sentences.hold("Promise 22", "What 0: KEYS in all SETS, 1: SETS that are not empty, 2: unlike KEYS in all, 3: MARKED ones in all, "
                + "4: ACTS that can be UNDONE, 5: bytes on the tape, 6: HUFFMAN, 7: bytes of what was TOLD.");
        MeltingHeaps x = new MeltingHeaps();
        for (int what = 0; what <= 7; what++) {
            Check.due("a new object, count(" + what + ")", x.count(what), 0);
        }
        x = Check.with(FULL + "mark 0 0 9999;mark 3 0 9999;");
        int[] full = {240, 4, 60, 120, 0, 0, 480, 0};
        for (int what = 0; what <= 7; what++) {
            Check.due("a full one, count(" + what + ")", x.count(what), full[what]);
        }
        x = Check.with("set 0 0 9999;set 7 0 9999;");
        for (int k = 0; k < 40; k++) {
            x.feed(0, 0, 0, 0, 0);
            x.seek(0, k);
        }
        x.tell(7);
        int[] others = {4, 2, 2, 0, 12, 800, 4, 6};
        for (int what = 0; what <= 7; what++) {
            Check.due("KEYS 0 and 9999 twice, count(" + what + ")", x.count(what), others[what]);
        }
        x = Check.with("set 0 0-29;set 1 30-59;set 2 60-89;set 3 90-119;set 4 120-149;set 5 150-179;set 6 180-209;set 7 210-239;");
        Check.due("240 unlike ones", x.count(2), 240);
        x.merged(100);
        Check.due("240 unlike ones, some having been asked for", x.count(2), 240);
        Check.due("240 unlike ones, asked again", x.count(2), 240);
        Check.due("eight SETS", x.count(1), 8);
    }

    private static void countOfNone() {
        Sentences.hold("Promise 22", "NONE for another what.");
        for (int what : new int[] {-1, 8, 9, MIN, MAX}) {
            Check.due("count(" + what + ")", Check.with("set 0 1;").count(what), -1);
        }
    }

    // ---- promises 23 to 27

    private static void duePair(String why, MeltingHeaps x, int one, int other, int... answers) {
        for (int what = 0; what < answers.length; what++) {
            Check.due(why + ", pair(" + one + ", " + other + ", " + what + ")", x.pair(one, other, what), answers[what]);
        }
    }

    private static void pair() {
        Sentences.hold("Promise 23", "Of two SETS (unlike ones), what 0: RUNS, 1: TWINS, 2: COST, 3: KEYS that just one of both has, "
                + "4: the longest RUN, 5: 1 if they could be JOINED (the second to the first), else 0, 6: 1 if they may be MELTED, else 0.");
        MeltingHeaps x = Check.with("set 0 0-59;set 1 0-59;set 2 60;set 3 58 59;set 4 0;");
        duePair("two empty ones", x, 5, 6, 0, 0, 0, 0, 0, 0, 0);
        duePair("one and an empty one", x, 2, 7, 1, 0, 1, 1, 1, 0, 0);
        duePair("an empty one and one", x, 7, 2, 1, 0, 1, 1, 1, 1, 1);
        duePair("an empty one and a full one", x, 7, 0, 1, 0, 6, 60, 60, 1, 1);
        duePair("full ones, all TWINS", x, 0, 1, 1, 60, 6, 0, 60, 0, 1);
        duePair("61", x, 0, 2, 2, 0, 7, 61, 60, 0, 0);
        duePair("61 the other way", x, 2, 0, 2, 0, 7, 61, 60, 0, 0);
        duePair("TWINS at the end", x, 0, 3, 1, 2, 6, 58, 60, 0, 1);
        duePair("TWINS at the end the other way", x, 3, 0, 2, 2, 6 + 2, 58, 58, 0, 1);
        duePair("KEY 0", x, 4, 3, 2, 0, 3, 3, 2, 1, 1);
        x = Check.with("set 0 0-29;set 1 30-59;set 2 29-58;set 3 30-60;" + Check.line(4, 0, 2, 30) + Check.line(5, 1, 2, 30));
        duePair("60 that are all below", x, 0, 1, 2, 0, 10, 60, 30, 1, 1);
        duePair("the other way", x, 1, 0, 2, 0, 10, 60, 30, 0, 1);
        duePair("one is not below", x, 0, 2, 2, 1, 10, 58, 30, 0, 1);
        duePair("61", x, 0, 3, 2, 0, 10, 61, 31, 0, 0);
        duePair("every other one", x, 4, 5, 60, 0, 60, 60, 1, 0, 1);
    }

    private static void pairOfNone() {
        Sentences.hold("Promise 23", "NONE: others.");
        MeltingHeaps x = Check.with("set 0 1;set 1 2;");
        for (int what = -1; what <= 7; what++) {
            for (int no : NO_SETS) {
                Check.due("pair(0, " + no + ", " + what + ")", x.pair(0, no, what), -1);
                Check.due("pair(" + no + ", 0, " + what + ")", x.pair(no, 0, what), -1);
                Check.due("pair(" + no + ", " + no + ", " + what + ")", x.pair(no, no, what), -1);
            }
            for (int set = 0; set < 8; set++) {
                Check.due("one SET twice, what " + what, x.pair(set, set, what), -1);
            }
        }
        for (int what : new int[] {-1, 7, 8, MIN, MAX}) {
            Check.due("pair(0, 1, " + what + ")", x.pair(0, 1, what), -1);
        }
    }

    private static void cheapest() {
        Sentences.hold("Promise 24", "CHEAPEST, what 0, 1: the SETS, 2: its COST.");
        MeltingHeaps x = Check.with("set 6 0;set 7 9999;");
        Check.due("cheapest(0)", x.cheapest(0), 6);
        Check.due("cheapest(1)", x.cheapest(1), 7);
        Check.due("cheapest(2)", x.cheapest(2), 2);
        Sentences.hold("Promise 24", "NONE: none.");
        for (int what : new int[] {-1, 3, MIN, MAX}) {
            Check.due("cheapest(" + what + ")", x.cheapest(what), -1);
        }
        x.drop(6, 0);
        MeltingHeaps tooMany = Check.with("set 0 0-59;set 1 60-119;set 2 120;");
        for (int what = -1; what <= 3; what++) {
            Check.due("one SET alone, cheapest(" + what + ")", x.cheapest(what), -1);
            Check.due("a new object, cheapest(" + what + ")", new MeltingHeaps().cheapest(what), -1);
            Check.due("all pairs are too many, cheapest(" + what + ")", tooMany.cheapest(what), -1);
        }
    }

    private static void merged() {
        Sentences.hold("Promise 25", "The k-th KEY (from 0) of all SETS together, each KEY as often as it is there, in order.");
        MeltingHeaps x = Check.with(FULL);
        for (int k = 0; k < 240; k++) {
            Check.due("merged(" + k + ")", x.merged(k), k / 4);
        }
        x = Check.with("set 7 0;set 0 9999;");
        Check.due("of the last SET", x.merged(0), 0);
        Check.due("of the first SET", x.merged(1), 9999);
        Sentences.hold("Promise 25", "NONE: not so many.");
        for (int k : new int[] {-1, 2, 240, MIN, MAX}) {
            Check.due("merged(" + k + ")", x.merged(k), -1);
        }
        Check.due("240 of 240", Check.with(FULL).merged(240), -1);
        Check.due("0 of none", new MeltingHeaps().merged(0), -1);
    }

    private static void would() {
        Sentences.hold("Promise 26", "HIGH of a SET, were a KEY there, too, or (gone) were it gone.");
        MeltingHeaps x = Check.with("set 1 0;set 2 9999;" + Check.line(3, 1, 55, 60) + Check.line(4, 0, 34, 60));
        Check.due("KEY 0 to an empty one", x.would(0, 0, false), 1);
        Check.due("KEY 9999 to an empty one", x.would(0, 9999, false), 1);
        Check.due("KEY 0 to one", x.would(2, 0, false), 2);
        Check.due("KEY 9999 to one", x.would(1, 9999, false), 2);
        Check.due("KEY 0 gone", x.would(1, 0, true), 0);
        Check.due("KEY 9999 gone", x.would(2, 9999, true), 0);
        Check.due("the ROOT of the deepest gone", x.would(3, 1, true), 59);
        Check.due("the lowest gone", x.would(3, 3246, true), 59);
        Check.due("the ROOT at the right gone", x.would(4, 2006, true), 59);
        Check.due("KEY 0, the lowest, gone", x.would(4, 0, true), 59);
        // of a KEY that would be too many the promise says nothing else
        Check.due("a 61st lower than all", x.would(3, 3301, false), 61);
        Check.due("a 61st that is ROOT", x.would(4, 2040, false), 61);
        // PRIORITY of 0 is less than that of 1, the ROOT: it is at its left
        Check.due("a 61st beside the others", x.would(3, 0, false), 60);
        Check.due("a 241st", Check.with(FULL).would(7, 5, false), 1);
        Check.due("nothing is done", x.set(3, 0) + x.set(4, 0), 120);
    }

    private static void wouldNot() {
        Sentences.hold("Promise 26", "NONE: it is there (it is not), no such SET, KEY.");
        MeltingHeaps x = Check.with("set 0 0 5 9999;");
        for (int there : new int[] {0, 5, 9999}) {
            Check.due("it is there, " + there, x.would(0, there, false), -1);
            Check.due("it is not there, " + there, x.would(1, there, true), -1);
        }
        for (int not : new int[] {1, 4, 6, 9998}) {
            Check.due("it is not there, " + not, x.would(0, not, true), -1);
        }
        for (boolean gone : new boolean[] {false, true}) {
            for (int no : NO_SETS) {
                Check.due("would(" + no + ", 5, " + gone + ")", x.would(no, 5, gone), -1);
            }
            for (int no : new int[] {-1, 10000, MIN, MAX}) {
                Check.due("would(0, " + no + ", " + gone + ")", x.would(0, no, gone), -1);
            }
        }
    }

    private static void halves() {
        Sentences.hold("Promise 27", "The KEY of a SET above which a CUT leaves half of its KEYS, rounded up.");
        for (int n = 2; n <= 60; n++) {
            MeltingHeaps x = Check.with(Check.line(0, 0, 3, n));
            int key = x.halves(0);
            Check.due("of " + n, key, 3 * ((n + 1) / 2 - 1));
            Check.due("a CUT above it", x.cut(0, key, 1), n / 2);
            Check.due("what it leaves", x.set(0, 0), (n + 1) / 2);
        }
        Sentences.hold("Promise 27", "NONE: it has fewer than 2, no such SET.");
        MeltingHeaps x = Check.with("set 0 5;");
        Check.due("one", x.halves(0), -1);
        Check.due("none", x.halves(1), -1);
        for (int no : NO_SETS) {
            Check.due("halves(" + no + ")", x.halves(no), -1);
        }
    }

    // ---- promises 28 to 31

    private static void tell() {
        Sentences.hold("Promise 28", "A SET is TOLD: how many bytes.");
        MeltingHeaps x = Check.with("set 1 0;set 2 0-59;mark 2 0 59;set 7 9999;" + Check.line(3, 1000, 150, 60) + "mark 3 0 9999;");
        Check.due("an empty one", x.tell(0), 0);
        Check.due("KEY 0", x.tell(1), 1);
        Check.due("a full one in one stretch", x.tell(2), 5);
        Check.due("the last SET", x.tell(7), 4);
        Check.due("the longest", x.tell(3), 359);
        Check.due("count(7)", x.count(7), 359);
        Check.due("an empty one is TOLD, too", x.tell(0), 0);
        Check.due("count(7)", x.count(7), 0);
        Sentences.hold("Promise 28", "NONE: no such SET (what was TOLD stays).");
        x.tell(2);
        for (int no : NO_SETS) {
            Check.due("tell(" + no + ")", x.tell(no), -1);
            Check.due("count(7)", x.count(7), 5);
            Check.due("octet(4)", x.octet(4), '*');
        }
    }

    private static void octet() {
        Sentences.hold("Promise 29", "The i-th byte of what was TOLD last.");
        MeltingHeaps x = Check.with("set 0 5 7-9;mark 0 5 5;" + Check.line(3, 1000, 150, 60) + "mark 3 0 9999;");
        x.tell(0);
        String told = "5* 7-9";
        for (int i = 0; i < told.length(); i++) {
            Check.due("octet(" + i + ")", x.octet(i), told.charAt(i));
        }
        x.drop(0, 5);
        Check.due("it stays as it was TOLD", x.octet(0), '5');
        x.tell(3);
        Check.due("the last of the longest", x.octet(358), '*');
        Sentences.hold("Promise 29", "NONE: not so many.");
        Check.due("octet(359)", x.octet(359), -1);
        x.tell(0);
        for (int i : new int[] {-1, 3, 6, 358, 359, 360, MIN, MAX}) {
            Check.due("octet(" + i + ")", x.octet(i), -1);
        }
        x.tell(7);
        Check.due("of an empty one", x.octet(0), -1);
        Check.due("of a new object", new MeltingHeaps().octet(0), -1);
    }

    private static void image() {
        Sentences.hold("Promise 30", "Image k (0 .. 2) is all that is (the tape, the FAULT, what was TOLD, too, but for what can be UNDONE), "
                + "as it is now: true");
        MeltingHeaps x = Check.with("set 0 0-59;mark 0 7 9;set 7 9999;");
        Check.text(x, "set 8;");
        x.seek(0, 30);
        x.tell(0);
        Check.feed(x, " ".repeat(792) + "set 1 5;");
        String before = Check.print(x);
        for (int k = 0; k < 3; k++) {
            Check.due("image(" + k + ")", x.image(k), true);
        }
        Check.due("nothing is another one by that", Check.print(x), before);
        Check.due("what can be UNDONE stays", x.undo(), 0);
        x.end(5);
        Check.text(x, "set 0 1;");
        x.tell(0);
        for (int k = 0; k < 3; k++) {
            x.again(k);
            // but for the one ACT that could be UNDONE
            x.seek(7, 0);
            x.undo();
            Check.due("how long what was TOLD is", x.count(7), 14);
            Check.due("its bytes", x.octet(5) + " " + x.octet(7) + " " + x.octet(13), "45 42 57");
            Check.due("KEYS", x.count(0), 61);
            Check.due("marks", Check.told(x, 0), "0-6 7-9* 10-59");
            Check.due("FINGER", x.set(0, 6), 30);
            Check.due("FAULT", x.fault(0), 2);
            Check.due("place", x.fault(1), 4);
            Check.due("the tape", x.count(5), 800);
            Check.due("its bytes", x.text(), 1);
            Check.due("its KEY", x.key(1, 0), 5);
        }
        Sentences.hold("Promise 30", "false for another k.");
        for (int k : new int[] {-1, 3, MIN, MAX}) {
            Check.due("image(" + k + ")", x.image(k), false);
        }
    }

    private static void again() {
        Sentences.hold("Promise 31", "All that is is as image k has it (nothing can be UNDONE then): true");
        MeltingHeaps x = new MeltingHeaps();
        x.image(1);
        x.put(0, 5);
        x.image(2);
        x.tell(0);
        x.put(0, 6);
        Check.due("an image of nothing", x.again(1), true);
        Check.due("KEYS", x.count(0), 0);
        Check.due("what was TOLD", x.count(7), 0);
        Check.due("count(4)", x.count(4), 0);
        Check.due("undo", x.undo(), -1);
        x.put(3, 3);
        Check.due("another image", x.again(2), true);
        Check.due("KEYS", x.count(0), 1);
        Check.due("undo", x.undo(), -1);
        x.drop(0, 5);
        Check.due("once more", x.again(2), true);
        Check.due("it was not changed", x.key(0, 0), 5);
        x.put(0, 6);
        x.image(2);
        x.put(0, 7);
        Check.due("an image anew", x.again(2), true);
        Check.due("KEYS", x.count(0), 2);
        Sentences.hold("Promise 31", "false if there is none such.");
        x.put(0, 8);
        for (int k : new int[] {-1, 0, 3, MIN, MAX}) {
            Check.due("again(" + k + ")", x.again(k), false);
            Check.due("all stays", x.count(0), 3);
            Check.due("what can be UNDONE, too", x.count(4), 1);
        }
        Check.due("image(0)", x.image(0), true);
        Check.due("now there is", x.again(0), true);
    }
}
