/** Boundary cases of Terms 2: the ACTS, why they are REFUSED, what is UNDONE, and what a MELT costs; a method a sentence. */
public final class TermsTwoEdgesTest {
    private static final int MIN = Integer.MIN_VALUE;
    private static final int MAX = Integer.MAX_VALUE;
    private static final int[] NO_SETS = {-1, 8, MIN, MAX};
    private static final int[] NO_KEYS = {-1, 10000, MIN, MAX};

    public static void main(String[] args) {
        put();
        drop();
        cut();
        join();
        melt();
        twins();
        shift();
        move();
        mark();
        seek();
        refusals();
        undoable();
        runs();
        costs();
        cheapest();
        huffman();
        Sentences.dueAll("Terms 2");
        Check.end("TermsTwoEdgesTest");
    }

    private static void put() {
        Sentences.hold("Terms 2", "ACTS. PUT: a KEY comes to a SET, not MARKED.");
        MeltingHeaps x = Check.with("set 0 5;mark 0 0 9999;");
        x.put(0, 4);
        x.put(0, 6);
        Check.due("beside MARKED ones", Check.told(x, 0), "4 5* 6");
        x.drop(0, 5);
        x.put(0, 5);
        Check.due("one that was MARKED before it went", Check.told(x, 0), "4-6");
        x.put(7, 9999);
        x.put(7, 0);
        Check.due("the least and the greatest", Check.told(x, 7), "0 9999");
    }

    private static void drop() {
        Sentences.hold("Terms 2", "DROP: one goes.");
        MeltingHeaps x = Check.with("set 0 0 1 9998 9999;set 1 0;mark 0 1 1;");
        x.drop(0, 0);
        x.drop(0, 9999);
        Check.due("the least and the greatest went, of this SET", Check.told(x, 0) + "|" + Check.told(x, 1), "1* 9998|0");
        x.drop(1, 0);
        Check.due("the last one went", x.set(1, 0), 0);
        Check.due("a full one", Check.with("set 0 0-59;").drop(0, 59), 59);
    }

    private static void cut() {
        Sentences.hold("Terms 2", "CUT: all KEYS of a SET above a number go to another one, that is empty.");
        MeltingHeaps x = Check.with("set 0 0 1 2 9998 9999;mark 0 2 9998;");
        x.cut(0, 9998, 1);
        Check.due("above the last but one", Check.told(x, 0) + "|" + Check.told(x, 1), "0 1 2* 9998*|9999");
        x.cut(0, 1, 2);
        Check.due("the KEY at the number stays", Check.told(x, 0) + "|" + Check.told(x, 2), "0 1|2* 9998*");
        x.cut(2, 1, 3);
        Check.due("all go", Check.told(x, 2) + "|" + Check.told(x, 3), "|2* 9998*");
        x.cut(0, 0, 2);
        Check.due("KEY 0 never goes", Check.told(x, 0) + "|" + Check.told(x, 2), "0|1");
        x = Check.with("set 0 1-60;");
        Check.due("all of a full one", x.cut(0, 0, 7), 60);
        Check.due("told", Check.told(x, 7), "1-60");
    }

    private static void join() {
        Sentences.hold("Terms 2", "JOIN: all KEYS of a SET go to another one, whose KEYS are all below.");
        MeltingHeaps x = Check.with("set 0 5 6;mark 0 6 6;set 1 7 9999;mark 1 7 7;set 2 0;");
        Check.due("right behind", x.join(0, 1), 4);
        Check.due("told", Check.told(x, 0) + "|" + Check.told(x, 1), "5 6* 7* 9999|");
        Check.due("to one KEY", x.join(2, 0), 5);
        Check.due("to an empty one, of which all are below", x.join(6, 2), 5);
        Check.due("told", Check.told(x, 6), "0 5 6* 7* 9999");
        x = Check.with("set 0 0-29;set 1 30-59;");
        Check.due("to a full one", x.join(0, 1), 60);
    }

    private static void melt() {
        Sentences.hold("Terms 2", "MELT: all KEYS of a SET go to another one");
        MeltingHeaps x = Check.with("set 0 1 3 5;mark 0 3 3;set 1 0 2 4 6;mark 1 0 0;mark 1 6 6;");
        x.melt(0, 1);
        Check.due("every other one", Check.told(x, 0) + "|" + Check.told(x, 1), "0* 1 2 3* 4 5 6*|");
        x.melt(5, 0);
        Check.due("to an empty one", Check.told(x, 0) + "|" + Check.told(x, 5), "|0* 1 2 3* 4 5 6*");
        x = Check.with("set 0 30-59;set 1 0-29;");
        x.melt(0, 1);
        Check.due("to a full one, from below", Check.told(x, 0), "0-59");
    }

    private static void twins() {
        Sentences.hold("Terms 2", "TWINS (those that were there already) are there once, MARKED, if either was.");
        MeltingHeaps x = Check.with("set 0 1-4;mark 0 3 4;set 1 1-4;mark 1 2 3;");
        x.melt(0, 1);
        Check.due("neither, the second, both, the first", Check.told(x, 0) + "|" + Check.told(x, 1), "1 2-4*|");
        x = Check.with("set 0 0-59;set 1 0-59;mark 1 59 59;");
        Check.due("TWINS of a full one are not too many", x.melt(0, 1), 6);
        Check.due("set(0, 0)", x.set(0, 0), 60);
        Check.due("the mark of the last", x.of(0, 59, 1), 1);
        Check.due("count(0)", x.count(0), 60);
    }

    private static void shift() {
        Sentences.hold("Terms 2", "SHIFT: all KEYS of a SET are so much more, -9999 to 9999.");
        MeltingHeaps x = Check.with("set 0 0;set 1 0 9998;mark 1 0 0;");
        Check.due("by 9999", x.shift(0, 9999), 1);
        Check.due("key", x.key(0, 0), 9999);
        Check.due("by -9999", x.shift(0, -9999), 1);
        Check.due("key", x.key(0, 0), 0);
        Check.due("by 1", x.shift(1, 1), 2);
        Check.due("marks go along", Check.told(x, 1), "1* 9999");
        Check.due("by -1", x.shift(1, -1), 2);
        Check.due("told", Check.told(x, 1), "0* 9998");
        x = Check.with("set 0 0-59;");
        Check.due("a full one", x.shift(0, 9940), 60);
        Check.due("told", Check.told(x, 0), "9940-9999");
    }

    private static void move() {
        Sentences.hold("Terms 2",
                "MOVE: KEYS of a SET from a number to another one go to another SET, that has none from the first to the last of those that go.");
        MeltingHeaps x = Check.with("set 0 10 20 30 40;mark 0 20 20;set 1 19 31;set 2 5 50;");
        Check.due("between two that are right beside", x.move(0, 11, 39, 1), 2);
        Check.due("told", Check.told(x, 0) + "|" + Check.told(x, 1), "10 40|19 20* 30 31");
        Check.due("those between whom none is, though the numbers reach over some", x.move(0, 0, 9999, 2), 2);
        Check.due("told", Check.told(x, 0) + "|" + Check.told(x, 2), "|5 10 40 50");
        Check.due("both ends count", x.move(2, 10, 40, 0), 2);
        Check.due("one KEY", x.move(0, 40, 40, 3), 1);
        Check.due("told", Check.told(x, 0) + "|" + Check.told(x, 3), "10|40");
        Check.due("below all of the other", x.move(2, 0, 5, 1), 1);
        Check.due("above all of the other", x.move(2, 50, 9999, 1), 1);
        Check.due("told", Check.told(x, 1), "5 19 20* 30 31 50");
        x = Check.with("set 0 0-59;");
        Check.due("all of a full one", x.move(0, 0, 59, 7), 60);
    }

    private static void mark() {
        Sentences.hold("Terms 2", "MARK: all KEYS of a SET from a number to another one become MARKED, or (those that are) not.");
        MeltingHeaps x = Check.with("set 0 0 1 2 9998 9999;set 1 0 1;");
        x.mark(0, 1, 9998, false);
        Check.due("both ends count", Check.told(x, 0), "0 1* 2* 9998* 9999");
        x.mark(0, 0, 9999, false);
        Check.due("all", Check.told(x, 0), "0-2* 9998* 9999*");
        x.mark(0, 9999, 9999, true);
        Check.due("one not", Check.told(x, 0), "0-2* 9998* 9999");
        x.mark(0, 1, 9998, true);
        Check.due("some not", Check.told(x, 0), "0* 1 2 9998 9999");
        x.mark(0, 0, 0, true);
        Check.due("none of any SET", x.count(3), 0);
    }

    private static void seek() {
        Sentences.hold("Terms 2",
                "SEEK: the FINGER of a SET goes to the greatest KEY not above a number, if there is none, to the least one.");
        MeltingHeaps x = Check.with("set 0 10 20 9999;set 1 0;");
        int[][] rows = {{0, 10}, {9, 10}, {10, 10}, {11, 10}, {19, 10}, {20, 20}, {21, 20}, {9998, 20}, {9999, 9999}};
        for (int[] row : rows) {
            x.seek(0, row[0]);
            Check.due("seek(0, " + row[0] + ") goes to", x.set(0, 6), row[1]);
        }
        x.seek(1, 9999);
        Check.due("far above KEY 0 alone", x.set(1, 6), 0);
        x.seek(1, 0);
        Check.due("at KEY 0", x.set(1, 6), 0);
    }

    // ---- REFUSED

    private static void refusals() {
        firstReasonCounts();
        noSuchSet();
        noSuchKey();
        shiftBelow();
        oneSetTwice();
        nothingToPutOrDrop();
        noKeyGoes();
        noKeyInThatSet();
        nothingToShift();
        noneBecomesAnother();
        nothingToSeek();
        cutToOneThatIsNotEmpty();
        joinNotAllBelow();
        moveAmongSome();
        shiftToNoKey();
        tooMany();
    }

    private interface Act {
        int on(MeltingHeaps x);
    }

    /** That an ACT answers 0 less the reason, and leaves all as it is. */
    private static void dueRefused(MeltingHeaps x, String name, Act act, int reason) {
        String before = Check.print(x);
        Check.due(name, act.on(x), -reason);
        Check.due(name + " leaves all", Check.print(x), before);
    }

    /** SETS 0 and 1 are full, 2 has two KEYS, 7 none; there are FINGERS, marks and ACTS that can be UNDONE. */
    private static MeltingHeaps some() {
        MeltingHeaps x = Check.with("set 0 0-59;set 1 100-159;set 2 5 7;mark 2 5 5;");
        x.seek(0, 30);
        x.seek(1, 159);
        x.seek(2, 5);
        return x;
    }

    private static void firstReasonCounts() {
        Sentences.hold("Terms 2", "REFUSED, the first of these:");
        MeltingHeaps x = some();
        dueRefused(x, "PUT: there, and full", y -> y.put(0, 59), 2);
        dueRefused(x, "CUT: one SET twice, and no KEY goes", y -> y.cut(7, 1, 7), 1);
        dueRefused(x, "CUT: no KEY goes, and the other is not empty", y -> y.cut(0, 59, 1), 2);
        dueRefused(x, "JOIN: one SET twice, and none in it", y -> y.join(7, 7), 1);
        dueRefused(x, "JOIN: no such SET, and none in that", y -> y.join(8, 7), 1);
        dueRefused(x, "JOIN: not all below, and too many", y -> y.join(1, 0), 3);
        dueRefused(x, "MELT: one SET twice, and none in it", y -> y.melt(7, 7), 1);
        dueRefused(x, "SHIFT: an empty SET, by too much", y -> y.shift(7, 10000), 1);
        dueRefused(x, "SHIFT: an empty SET, by what could not be", y -> y.shift(7, 9999), 2);
        dueRefused(x, "MOVE: one SET twice, and no KEY goes", y -> y.move(7, 0, 9, 7), 1);
        dueRefused(x, "MOVE: no such KEY, and no KEY goes", y -> y.move(0, 60, 10000, 1), 1);
        dueRefused(x, "MOVE: no KEY goes, though some are there", y -> y.move(0, 100, 159, 1), 2);
        dueRefused(x, "MOVE: some are there, and too many", y -> y.move(2, 5, 7, 0), 3);
        dueRefused(x, "MARK: an empty SET, and no such KEY", y -> y.mark(7, -1, 5, false), 1);
        dueRefused(x, "SEEK: an empty SET, and no such KEY", y -> y.seek(7, 10000), 1);
    }

    private static void noSuchSet() {
        Sentences.hold("Terms 2", "1 there is no such SET");
        MeltingHeaps x = some();
        for (int no : NO_SETS) {
            dueRefused(x, "put to " + no, y -> y.put(no, 1), 1);
            dueRefused(x, "drop of " + no, y -> y.drop(no, 5), 1);
            dueRefused(x, "cut of " + no, y -> y.cut(no, 1, 7), 1);
            dueRefused(x, "cut to " + no, y -> y.cut(0, 1, no), 1);
            dueRefused(x, "join to " + no, y -> y.join(no, 2), 1);
            dueRefused(x, "join of " + no, y -> y.join(2, no), 1);
            dueRefused(x, "melt to " + no, y -> y.melt(no, 2), 1);
            dueRefused(x, "melt of " + no, y -> y.melt(2, no), 1);
            dueRefused(x, "shift of " + no, y -> y.shift(no, 1), 1);
            dueRefused(x, "move of " + no, y -> y.move(no, 0, 9, 7), 1);
            dueRefused(x, "move to " + no, y -> y.move(2, 0, 9, no), 1);
            dueRefused(x, "mark of " + no, y -> y.mark(no, 0, 9, false), 1);
            dueRefused(x, "mark not of " + no, y -> y.mark(no, 0, 9, true), 1);
            dueRefused(x, "seek in " + no, y -> y.seek(no, 5), 1);
        }
    }

    private static void noSuchKey() {
        Sentences.hold("Terms 2", "KEY (any number asked for is above 9999, below 0");
        MeltingHeaps x = some();
        for (int no : NO_KEYS) {
            dueRefused(x, "put " + no, y -> y.put(2, no), 1);
            dueRefused(x, "drop " + no, y -> y.drop(2, no), 1);
            dueRefused(x, "cut above " + no, y -> y.cut(2, no, 7), 1);
            dueRefused(x, "move from " + no, y -> y.move(2, no, 9, 7), 1);
            dueRefused(x, "move to " + no, y -> y.move(2, 0, no, 7), 1);
            dueRefused(x, "mark from " + no, y -> y.mark(2, no, 9, false), 1);
            dueRefused(x, "mark to " + no, y -> y.mark(2, 0, no, false), 1);
            dueRefused(x, "mark not from " + no, y -> y.mark(2, no, 9, true), 1);
            dueRefused(x, "mark not to " + no, y -> y.mark(2, 0, no, true), 1);
            dueRefused(x, "seek " + no, y -> y.seek(2, no), 1);
        }
        dueRefused(x, "shift by 10000", y -> y.shift(2, 10000), 1);
        dueRefused(x, "shift by MAX", y -> y.shift(2, MAX), 1);
        Check.due("cut above 9999 is no such reason", x.cut(2, 9999, 7), -2);
        Check.due("move from 0 to 9999 is none", x.move(2, 0, 9999, 7), 2);
        Check.due("mark from 0 to 9999 is none", x.mark(7, 0, 9999, false), 1);
        Check.due("seek 9999 is none", x.seek(7, 9999), 0);
        Check.due("seek 0 is none", x.seek(7, 0), 1);
    }

    private static void shiftBelow() {
        Sentences.hold("Terms 2", "of SHIFT below -9999)");
        MeltingHeaps x = some();
        dueRefused(x, "shift by -10000", y -> y.shift(2, -10000), 1);
        dueRefused(x, "shift by MIN", y -> y.shift(2, MIN), 1);
        dueRefused(x, "-9999 is a number, though it can't be", y -> y.shift(2, -9999), 3);
        dueRefused(x, "9999 is a number, though it can't be", y -> y.shift(2, 9999), 3);
        dueRefused(x, "-10000 of an empty one", y -> y.shift(7, -10000), 1);
    }

    private static void oneSetTwice() {
        Sentences.hold("Terms 2", "one SET twice");
        MeltingHeaps x = some();
        for (int set : new int[] {0, 2, 7}) {
            dueRefused(x, "cut", y -> y.cut(set, 1, set), 1);
            dueRefused(x, "join", y -> y.join(set, set), 1);
            dueRefused(x, "melt", y -> y.melt(set, set), 1);
            dueRefused(x, "move", y -> y.move(set, 0, 9, set), 1);
        }
        // a SET and a KEY may well be the same number
        Check.due("put(2, 2)", x.put(2, 2), 0);
        Check.due("cut(2, 2, 3)", x.cut(2, 2, 3), 2);
        Check.due("move(2, 2, 2, 4)", x.move(2, 2, 2, 4), 1);
    }

    private static void nothingToPutOrDrop() {
        MeltingHeaps x = some();
        Sentences.hold("Terms 2", "2 there is nothing to be done: PUT: it is there");
        dueRefused(x, "put(2, 5), a MARKED one", y -> y.put(2, 5), 2);
        dueRefused(x, "put(0, 0)", y -> y.put(0, 0), 2);
        Sentences.hold("Terms 2", "DROP: it is not");
        dueRefused(x, "drop(2, 6)", y -> y.drop(2, 6), 2);
        dueRefused(x, "drop(0, 60)", y -> y.drop(0, 60), 2);
        dueRefused(x, "drop(7, 0)", y -> y.drop(7, 0), 2);
        dueRefused(x, "drop(7, 9999)", y -> y.drop(7, 9999), 2);
    }

    private static void noKeyGoes() {
        Sentences.hold("Terms 2", "CUT, MOVE: no KEY goes");
        MeltingHeaps x = some();
        dueRefused(x, "cut above the greatest", y -> y.cut(2, 7, 7), 2);
        dueRefused(x, "cut above 9999", y -> y.cut(2, 9999, 7), 2);
        dueRefused(x, "cut of an empty one", y -> y.cut(7, 0, 6), 2);
        dueRefused(x, "move of an empty one", y -> y.move(7, 0, 9999, 6), 2);
        dueRefused(x, "move between two KEYS", y -> y.move(2, 6, 6, 7), 2);
        dueRefused(x, "move from above to below", y -> y.move(2, 7, 5, 7), 2);
        dueRefused(x, "move below all", y -> y.move(2, 0, 4, 7), 2);
        dueRefused(x, "move above all", y -> y.move(2, 8, 9999, 7), 2);
    }

    private static void noKeyInThatSet() {
        Sentences.hold("Terms 2", "JOIN, MELT: no KEY is in that SET");
        MeltingHeaps x = some();
        dueRefused(x, "join of an empty one", y -> y.join(0, 7), 2);
        dueRefused(x, "join of two empty ones", y -> y.join(6, 7), 2);
        dueRefused(x, "melt of an empty one", y -> y.melt(0, 7), 2);
        dueRefused(x, "melt of two empty ones", y -> y.melt(6, 7), 2);
    }

    private static void nothingToShift() {
        Sentences.hold("Terms 2", "SHIFT: by 0, of an empty SET");
        MeltingHeaps x = some();
        dueRefused(x, "by 0", y -> y.shift(2, 0), 2);
        dueRefused(x, "an empty one by 0", y -> y.shift(7, 0), 2);
        dueRefused(x, "an empty one by 1", y -> y.shift(7, 1), 2);
        dueRefused(x, "an empty one by -9999", y -> y.shift(7, -9999), 2);
        dueRefused(x, "an empty one by 9999", y -> y.shift(7, 9999), 2);
    }

    private static void noneBecomesAnother() {
        Sentences.hold("Terms 2", "MARK: none becomes another one");
        MeltingHeaps x = some();
        dueRefused(x, "one that is MARKED", y -> y.mark(2, 0, 6, false), 2);
        dueRefused(x, "one that is not", y -> y.mark(2, 6, 9999, true), 2);
        dueRefused(x, "between two KEYS", y -> y.mark(2, 6, 6, false), 2);
        dueRefused(x, "from above to below", y -> y.mark(2, 7, 5, false), 2);
        dueRefused(x, "not, from above to below", y -> y.mark(2, 7, 5, true), 2);
        dueRefused(x, "an empty one", y -> y.mark(7, 0, 9999, false), 2);
        dueRefused(x, "not, an empty one", y -> y.mark(7, 0, 9999, true), 2);
        Check.due("of two just one", x.mark(2, 5, 7, false), 1);
    }

    private static void nothingToSeek() {
        Sentences.hold("Terms 2", "SEEK: the SET is empty");
        MeltingHeaps x = some();
        dueRefused(x, "seek(7, 0)", y -> y.seek(7, 0), 2);
        dueRefused(x, "seek(7, 9999)", y -> y.seek(7, 9999), 2);
        x.cut(2, 0, 6);
        dueRefused(x, "one that was not empty", y -> y.seek(2, 5), 2);
    }

    private static void cutToOneThatIsNotEmpty() {
        Sentences.hold("Terms 2", "3 it can't be: CUT: the other one is not empty");
        MeltingHeaps x = some();
        x.put(7, 9999);
        dueRefused(x, "one KEY is there, above all", y -> y.cut(2, 5, 7), 3);
        x.drop(7, 9999);
        Check.due("it is empty again", x.cut(2, 5, 7), 1);
    }

    private static void joinNotAllBelow() {
        Sentences.hold("Terms 2", "JOIN: not all are below");
        MeltingHeaps x = Check.with("set 0 10 20;set 1 20 30;set 2 19;set 3 0;set 4 21;");
        dueRefused(x, "the greatest is their least", y -> y.join(0, 1), 3);
        dueRefused(x, "one is above", y -> y.join(0, 2), 3);
        dueRefused(x, "all are above", y -> y.join(0, 3), 3);
        Check.due("one more than the greatest", x.join(0, 4), 3);
    }

    private static void moveAmongSome() {
        Sentences.hold("Terms 2", "MOVE: there are some");
        MeltingHeaps x = Check.with("set 0 10 20 30;set 1 10;set 2 30;set 3 20;set 4 9 31;");
        dueRefused(x, "at the first", y -> y.move(0, 0, 9999, 1), 3);
        dueRefused(x, "at the last", y -> y.move(0, 0, 9999, 2), 3);
        dueRefused(x, "between", y -> y.move(0, 10, 30, 3), 3);
        Check.due("right outside", x.move(0, 0, 9999, 4), 3);
    }

    private static void shiftToNoKey() {
        Sentences.hold("Terms 2", "SHIFT: a KEY would be none");
        MeltingHeaps x = Check.with("set 0 3 9000;set 1 0 9999;");
        dueRefused(x, "the least below 0", y -> y.shift(0, -4), 3);
        dueRefused(x, "the greatest above 9999", y -> y.shift(0, 1000), 3);
        dueRefused(x, "0 by -1", y -> y.shift(1, -1), 3);
        dueRefused(x, "9999 by 1", y -> y.shift(1, 1), 3);
        Check.due("to 0", x.shift(0, -3), 2);
        Check.due("to 9999", x.shift(0, 1002), 2);
        Check.due("told", Check.told(x, 0), "1002 9999");
    }

    private static void tooMany() {
        Sentences.hold("Terms 2", "4 there would be more than 60 in one SET, than 240 in all.");
        MeltingHeaps x = some();
        dueRefused(x, "put", y -> y.put(0, 60), 4);
        dueRefused(x, "join", y -> y.join(0, 1), 4);
        dueRefused(x, "melt", y -> y.melt(0, 1), 4);
        dueRefused(x, "move", y -> y.move(1, 159, 159, 0), 4);
        x.drop(0, 30);
        x.put(2, 160);
        Check.due("melt of two TWINS and a 60th", x.melt(0, 2), 6 + 1);
        x.undo();
        x.put(2, 161);
        dueRefused(x, "melt of two TWINS, a 60th and a 61st", y -> y.melt(0, 2), 4);
        x = Check.with("set 0 0-57;set 1 100-102;set 2 56-60;set 3 56-59;set 4 100 101;");
        dueRefused(x, "join of 61", y -> y.join(0, 1), 4);
        dueRefused(x, "melt of 61", y -> y.melt(0, 2), 4);
        dueRefused(x, "move of 61", y -> y.move(1, 100, 102, 0), 4);
        Check.due("move of 60", x.move(1, 101, 102, 0), 2);
        x.undo();
        Check.due("melt of 60", x.melt(0, 3), 6 + 2);
        x.undo();
        Check.due("join of 60", x.join(0, 4), 60);
        x = Check.with("set 0 0-29;set 1 0-29;set 2 0-29;set 3 0-29;set 4 0-29;set 5 0-29;set 6 0-29;set 7 0-29;");
        dueRefused(x, "put a 241st", y -> y.put(7, 30), 4);
    }

    private static void undoable() {
        Sentences.hold("Terms 2", "The latest 12 that were not REFUSED can be UNDONE (SEEK, too).");
        MeltingHeaps x = Check.with("set 0 0-20;");
        String[] prints = new String[14];
        for (int n = 0; n < 13; n++) {
            Check.due("count(4)", x.count(4), n);
            prints[n] = x.set(0, 6) + "";
            Check.due("seek", x.seek(0, n), n == 0 ? 0 : x.far(0, n - 1, n));
            Check.due("one that is REFUSED does not count", x.seek(0, -1), -1);
            if (n == 12) {
                Check.due("a 13th makes no more", x.count(4), 12);
            }
        }
        for (int n = 12; n >= 1; n--) {
            Check.due("undo", x.undo(), n - 1);
            Check.due("FINGER", x.set(0, 6) + "", prints[n]);
        }
        Check.due("the first of 13 can't be", x.undo(), -1);
        Check.due("FINGER", x.set(0, 6), 0);
    }

    // ---- RUNS, COST, CHEAPEST, HUFFMAN

    private static void runs() {
        Sentences.hold("Terms 2",
                "RUNS of two SETS: their KEYS in order, TWINS left out of the second one: a RUN is as many as there are of one SET side by side.");
        MeltingHeaps x = Check.with("set 0 1 3 5;set 1 2 4;set 2 3;set 3 1 3 5;set 4 6-9;set 5 2 3 4;");
        Check.due("of two empty ones", x.pair(6, 7, 0), 0);
        Check.due("of one and an empty one", x.pair(0, 7, 0), 1);
        Check.due("of an empty one and one", x.pair(7, 0, 0), 1);
        Check.due("every other one", x.pair(0, 1, 0), 5);
        Check.due("a TWIN in the second parts nothing", x.pair(0, 2, 0), 1);
        Check.due("but in the first it does", x.pair(2, 0, 0), 3);
        Check.due("all TWINS", x.pair(0, 3, 0), 1);
        Check.due("one behind the other", x.pair(0, 4, 0), 2);
        // 1 | 2 | 3 | 4 | 5: the 3 is of the first
        Check.due("a TWIN between two of the second", x.pair(0, 5, 0), 5);
        // 1 | 2 3 4 | 5: the 3 is of the first
        Check.due("a TWIN between two of the first", x.pair(5, 0, 0), 3);
    }

    private static void costs() {
        Sentences.hold("Terms 2", "COST of a MELT: of each RUN of n KEYS 1, and how often 2 goes into n (2 to that is n or less).");
        int[][] rows = {{1, 1}, {2, 2}, {3, 2}, {4, 3}, {7, 3}, {8, 4}, {15, 4}, {16, 5}, {31, 5}, {32, 6}, {59, 6}, {60, 6}};
        for (int[] row : rows) {
            MeltingHeaps x = Check.with("set 0 1-" + row[0] + ";");
            Check.due("a RUN of " + row[0], x.pair(1, 0, 2), row[1]);
            Check.due("a RUN of " + row[0] + ", melted", x.melt(1, 0), row[1]);
        }
        Check.due("no RUN", new MeltingHeaps().pair(0, 1, 2), 0);
        MeltingHeaps x = Check.with(Check.line(0, 0, 2, 30) + Check.line(1, 1, 2, 30));
        Check.due("60 RUNS of one", x.melt(0, 1), 60);
    }

    private static void dueCheapest(String why, String text, int one, int other, int cost) {
        MeltingHeaps x = Check.with(text);
        Check.due(why + ": the first", x.cheapest(0), one);
        Check.due(why + ": the second", x.cheapest(1), other);
        Check.due(why + ": COST", x.cheapest(2), cost);
    }

    private static void cheapest() {
        Sentences.hold("Terms 2", "CHEAPEST: of all pairs of SETS, the lesser number first");
        // 1 | 2 | 3 the one way, 1 2 3 the other way
        dueCheapest("the lesser number first", "set 3 2;set 5 1-3;", 3, 5, 3);
        dueCheapest("the first and the last SET", "set 0 1-3;set 7 2;", 0, 7, 2);
        Sentences.hold("Terms 2", "both not empty");
        dueCheapest("no SET", "", -1, -1, -1);
        dueCheapest("one SET", "set 2 1;", -1, -1, -1);
        dueCheapest("two SETS, the last ones", "set 6 1;set 7 9;", 6, 7, 2);
        Sentences.hold("Terms 2", "that may be MELTED");
        dueCheapest("60 together", "set 0 0-29;set 1 30-59;", 0, 1, 10);
        dueCheapest("61 together", "set 0 0-29;set 1 30-60;", -1, -1, -1);
        dueCheapest("60 by TWINS", "set 0 0-59;set 1 0-59;", 0, 1, 6);
        // 0 and 1 would cost 10, but would be 61, as would 1 and 2
        dueCheapest("a dearer pair that may", Check.line(0, 0, 2, 30) + "set 1 100-130;" + Check.line(2, 1, 2, 30), 0, 2, 60);
        Sentences.hold("Terms 2", "that with least COST");
        dueCheapest("the last pair is", "set 0 1 20 40;set 3 10 30;set 6 15 35;set 7 15 35;", 6, 7, 2);
        Sentences.hold("Terms 2", "of several the first by the first one, then the second one.");
        dueCheapest("all are like", "set 1 1;set 2 1;set 3 1;set 4 1;", 1, 2, 1);
        dueCheapest("the first one counts more", "set 0 50;set 3 3 70;set 4 10;set 7 60;", 0, 4, 2);
        dueCheapest("then the second one", "set 0 1 9;set 2 2;set 5 3;set 6 4;", 2, 5, 2);
    }

    private static void dueHuffman(String text, int sum) {
        Check.due(text.isEmpty() ? "none" : text, Check.with(text).count(6), sum);
    }

    private static void huffman() {
        Sentences.hold("Terms 2", "HUFFMAN: all SETS that are not empty, by how many KEYS");
        dueHuffman("", 0);
        dueHuffman("set 7 1-60;", 0);
        dueHuffman("set 0 5;set 7 5;", 2);
        Sentences.hold("Terms 2", "the two with fewest (of like ones the lesser number) go together to the lesser number of both (TWINS counted each)");
        dueHuffman("set 0 0-59;set 1 0-59;", 120);
        // 3 and 3 are 6, with 4 it is 10; those with most together first would be 7 and 10
        dueHuffman("set 0 1-4;set 1 1-3;set 2 1-3;", 6 + 10);
        // 1 1 1 1: 2, 2, 4
        dueHuffman("set 0 1;set 3 1;set 6 1;set 7 1;", 2 + 2 + 4);
        Sentences.hold("Terms 2", "till there is one: what both have, together, each time: the sum.");
        // 3, 6, 12, 24, 48, 96 (3 6 12 24 48 would be the next ones)
        dueHuffman("set 0 1;set 1 1 2;set 2 1-3;set 3 1-6;set 4 1-12;set 5 1-24;set 6 1-48;", 3 + 6 + 12 + 24 + 48 + 96);
        dueHuffman("set 0 1-60;set 1 1-60;set 2 1-60;set 3 1-60;", 480);
        dueHuffman("set 0 1-30;set 1 1-30;set 2 1-30;set 3 1-30;set 4 1-30;set 5 1-30;set 6 1-30;set 7 1-30;", 720);
    }
}
