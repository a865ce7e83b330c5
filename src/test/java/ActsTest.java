/** Promises 6 to 15: the ACTS, why they are REFUSED, the FINGER, and what is UNDONE. */
public final class ActsTest {
    private static final int MIN = Integer.MIN_VALUE;
    private static final int MAX = Integer.MAX_VALUE;

    public static void main(String[] args) {
        put();
        drop();
        cut();
        join();
        melt();
        shift();
        move();
        mark();
        seek();
        fingers();
        fingersOverTwins();
        undo();
        undoEveryAct();
        Check.end("ActsTest");
    }

    /** 240 KEYS: 60 in each of SETS 0, 1, 2 and 4. */
    private static MeltingHeaps full() {
        return Check.with("set 0 0-59;set 1 0-59;set 2 0-59;set 4 100-159;");
    }

    private static void put() {
        MeltingHeaps x = new MeltingHeaps();
        Check.due("put(0, 5)", x.put(0, 5), 0);
        Check.due("put(0, 9999)", x.put(0, 9999), 1);
        Check.due("put(0, 0)", x.put(0, 0), 0);
        Check.due("put(0, 7)", x.put(0, 7), 2);
        Check.due("put again", x.put(0, 7), -2);
        Check.due("put to another one", x.put(7, 7), 0);
        Check.due("told", Check.told(x, 0), "0 5 7 9999");
        for (int key : new int[] {-1, 10000, MIN, MAX}) {
            Check.due("put(0, " + key + ")", x.put(0, key), -1);
        }
        for (int set : new int[] {-1, 8, MIN, MAX}) {
            Check.due("put(" + set + ", 1)", x.put(set, 1), -1);
        }
        Check.due("refused acts are none", x.count(4), 5);
        x.mark(0, 5, 5, false);
        x.drop(0, 5);
        x.put(0, 5);
        Check.due("it comes not marked", x.of(0, 5, 1), 0);
        x = Check.with("set 0 0-59;");
        Check.due("there, in a full one", x.put(0, 59), -2);
        Check.due("a 61st", x.put(0, 60), -4);
        x = full();
        Check.due("a 241st", x.put(3, 1), -4);
        Check.due("a 241st that is there", x.put(4, 100), -2);
        x.drop(0, 0);
        Check.due("a 240th", x.put(3, 1), 0);
    }

    private static void drop() {
        MeltingHeaps x = Check.with("set 0 1 3 5;");
        Check.due("drop(0, 2)", x.drop(0, 2), -2);
        Check.due("drop(1, 1)", x.drop(1, 1), -2);
        Check.due("drop(0, 3)", x.drop(0, 3), 2);
        Check.due("told", Check.told(x, 0), "1 5");
        Check.due("drop(0, 5)", x.drop(0, 5), 1);
        Check.due("drop(0, 1)", x.drop(0, 1), 0);
        Check.due("drop(0, 1)", x.drop(0, 1), -2);
        Check.due("drop(8, 1)", x.drop(8, 1), -1);
        Check.due("drop(-1, 1)", x.drop(-1, 1), -1);
        Check.due("drop(0, -1)", x.drop(0, -1), -1);
        Check.due("drop(0, 10000)", x.drop(0, 10000), -1);
    }

    private static void cut() {
        MeltingHeaps x = Check.with("set 0 1-9;mark 0 5 7;set 1 3;");
        Check.due("cut(0, 9, 2)", x.cut(0, 9, 2), -2);
        Check.due("cut(0, 9999, 1)", x.cut(0, 9999, 1), -2);
        Check.due("cut(0, 1, 1)", x.cut(0, 1, 1), -3);
        Check.due("cut(0, 1, 0)", x.cut(0, 1, 0), -1);
        Check.due("cut(0, -1, 2)", x.cut(0, -1, 2), -1);
        Check.due("cut(0, 10000, 2)", x.cut(0, 10000, 2), -1);
        Check.due("cut(8, 1, 2)", x.cut(8, 1, 2), -1);
        Check.due("cut(0, 1, 8)", x.cut(0, 1, 8), -1);
        Check.due("cut(0, 1, -1)", x.cut(0, 1, -1), -1);
        Check.due("cut(2, 1, 3) of none", x.cut(2, 1, 3), -2);
        Check.due("cut(0, 6, 2)", x.cut(0, 6, 2), 3);
        Check.due("told", Check.told(x, 0) + "|" + Check.told(x, 2), "1-4 5* 6*|7* 8 9");
        Check.due("cut all", x.cut(0, 0, 3), 6);
        Check.due("nothing left", x.set(0, 0), 0);
        Check.due("told", Check.told(x, 3), "1-4 5* 6*");
    }

    private static void join() {
        MeltingHeaps x = Check.with("set 0 1-3;mark 0 1 1;set 1 4 9;mark 1 9 9;set 2 3 4;");
        Check.due("join(0, 2)", x.join(0, 2), -3);
        Check.due("join(1, 0)", x.join(1, 0), -3);
        Check.due("join(0, 3)", x.join(0, 3), -2);
        Check.due("join(3, 4)", x.join(3, 4), -2);
        Check.due("join(0, 0)", x.join(0, 0), -1);
        Check.due("join(3, 3)", x.join(3, 3), -1);
        Check.due("join(8, 0)", x.join(8, 0), -1);
        Check.due("join(0, -1)", x.join(0, -1), -1);
        Check.due("join(0, 1)", x.join(0, 1), 5);
        Check.due("told", Check.told(x, 0) + "|" + Check.told(x, 1), "1* 2-4 9*|");
        Check.due("join to an empty one", x.join(1, 0), 5);
        Check.due("told", Check.told(x, 0) + "|" + Check.told(x, 1), "|1* 2-4 9*");
        x = Check.with("set 0 0-30;set 1 40-68;set 2 40-69;set 3 30-69;");
        Check.due("not below is ahead of too many", x.join(0, 3), -3);
        Check.due("too many", x.join(0, 2), -4);
        Check.due("just 60", x.join(0, 1), 60);
    }

    private static void melt() {
        MeltingHeaps x = Check.with("set 0 1 2 3 10 11 20;mark 0 2 3;set 1 2 5 6 7 8 11 30;mark 1 11 30;mark 1 2 2;");
        Check.due("melt(0, 0)", x.melt(0, 0), -1);
        Check.due("melt(0, 8)", x.melt(0, 8), -1);
        Check.due("melt(-1, 0)", x.melt(-1, 0), -1);
        Check.due("melt(0, 2)", x.melt(0, 2), -2);
        Check.due("melt(2, 3)", x.melt(2, 3), -2);
        // 1 2 3 | 5 6 7 8 | 10 11 20 | 30
        Check.due("melt(0, 1)", x.melt(0, 1), 2 + 3 + 2 + 1);
        Check.due("told", Check.told(x, 0) + "|" + Check.told(x, 1), "1 2* 3* 5-8 10 11* 20 30*|");
        Check.due("melt to an empty one", x.melt(5, 0), 4);
        Check.due("told", Check.told(x, 0) + "|" + Check.told(x, 5), "|1 2* 3* 5-8 10 11* 20 30*");
        x = Check.with("set 0 0-39;set 1 20-60;set 2 20-59;");
        Check.due("61 together", x.melt(0, 1), -4);
        Check.due("60 together", x.melt(0, 2), 6 + 5);
        Check.due("count(0)", x.count(0), 101);
        x = Check.with("set 0 1-7;set 1 1-7;");
        Check.due("all twins", x.melt(0, 1), 3);
        Check.due("told", Check.told(x, 0) + "|" + Check.told(x, 1), "1-7|");
    }

    private static void shift() {
        MeltingHeaps x = Check.with("set 0 5 9 12;mark 0 9 9;set 1 0 9999;set 2 0;");
        Check.due("shift(8, 1)", x.shift(8, 1), -1);
        Check.due("shift(-1, 1)", x.shift(-1, 1), -1);
        Check.due("shift(0, 10000)", x.shift(0, 10000), -1);
        Check.due("shift(0, -10000)", x.shift(0, -10000), -1);
        Check.due("shift(0, MIN)", x.shift(0, MIN), -1);
        Check.due("shift(0, MAX)", x.shift(0, MAX), -1);
        Check.due("shift(3, 10000)", x.shift(3, 10000), -1);
        Check.due("shift(0, 0)", x.shift(0, 0), -2);
        Check.due("shift(3, 1)", x.shift(3, 1), -2);
        Check.due("shift(3, 9999)", x.shift(3, 9999), -2);
        Check.due("shift(0, -6)", x.shift(0, -6), -3);
        Check.due("shift(0, 9988)", x.shift(0, 9988), -3);
        Check.due("shift(1, 1)", x.shift(1, 1), -3);
        Check.due("shift(1, -1)", x.shift(1, -1), -3);
        Check.due("shift(0, -5)", x.shift(0, -5), 3);
        Check.due("told", Check.told(x, 0), "0 4* 7");
        Check.due("shift(0, 9992)", x.shift(0, 9992), 3);
        Check.due("told", Check.told(x, 0), "9992 9996* 9999");
        Check.due("shift(2, 9999)", x.shift(2, 9999), 1);
        Check.due("shift(2, -9999)", x.shift(2, -9999), 1);
        Check.due("told", Check.told(x, 2), "0");
    }

    private static void move() {
        MeltingHeaps x = Check.with("set 0 1-9;mark 0 4 5;set 1 3 7 30;set 2 100;");
        Check.due("move(0, 1, 2, 0)", x.move(0, 1, 2, 0), -1);
        Check.due("move(8, 1, 2, 0)", x.move(8, 1, 2, 0), -1);
        Check.due("move(0, 1, 2, 8)", x.move(0, 1, 2, 8), -1);
        Check.due("move(0, -1, 2, 1)", x.move(0, -1, 2, 1), -1);
        Check.due("move(0, 1, 10000, 1)", x.move(0, 1, 10000, 1), -1);
        Check.due("move(0, 10000, 1, 1)", x.move(0, 10000, 1, 1), -1);
        Check.due("move(0, 1, -1, 1)", x.move(0, 1, -1, 1), -1);
        Check.due("move(0, 10, 9999, 1)", x.move(0, 10, 9999, 1), -2);
        Check.due("move(0, 5, 4, 1)", x.move(0, 5, 4, 1), -2);
        Check.due("move(3, 0, 9999, 1)", x.move(3, 0, 9999, 1), -2);
        Check.due("move(0, 3, 6, 1)", x.move(0, 3, 6, 1), -3);
        Check.due("move(0, 4, 7, 1)", x.move(0, 4, 7, 1), -3);
        Check.due("move(0, 2, 4, 1)", x.move(0, 2, 4, 1), -3);
        Check.due("move(0, 4, 6, 1)", x.move(0, 4, 6, 1), 3);
        Check.due("told", Check.told(x, 0) + "|" + Check.told(x, 1), "1-3 7-9|3 4* 5* 6 7 30");
        // what is asked for may reach over KEYS of the other SET; only those that go count
        Check.due("move(0, 8, 9999, 1)", x.move(0, 8, 9999, 1), 2);
        Check.due("move(0, 0, 2, 2)", x.move(0, 0, 2, 2), 2);
        Check.due("move(1, 30, 30, 2)", x.move(1, 30, 30, 2), 1);
        Check.due("told", Check.told(x, 0) + "|" + Check.told(x, 1) + "|" + Check.told(x, 2), "3 7|3 4* 5* 6-9|1 2 30 100");
        Check.due("move to an empty one", x.move(1, 0, 9999, 6), 7);
        x = Check.with("set 0 0-30;set 1 40-69;set 2 20-59;");
        Check.due("some are between, and too many", x.move(0, 0, 30, 2), -3);
        Check.due("too many", x.move(0, 0, 30, 1), -4);
        Check.due("just 60", x.move(0, 0, 29, 1), 30);
    }

    private static void mark() {
        MeltingHeaps x = Check.with("set 0 1-9;");
        Check.due("mark(8, 1, 2)", x.mark(8, 1, 2, false), -1);
        Check.due("mark(-1, 1, 2)", x.mark(-1, 1, 2, true), -1);
        Check.due("mark(0, -1, 2)", x.mark(0, -1, 2, false), -1);
        Check.due("mark(0, 1, 10000)", x.mark(0, 1, 10000, false), -1);
        Check.due("mark(0, 10000, 1)", x.mark(0, 10000, 1, false), -1);
        Check.due("mark(0, 1, -1)", x.mark(0, 1, -1, false), -1);
        Check.due("mark(0, 4, 3)", x.mark(0, 4, 3, false), -2);
        Check.due("mark(0, 10, 20)", x.mark(0, 10, 20, false), -2);
        Check.due("mark(1, 0, 9999)", x.mark(1, 0, 9999, false), -2);
        Check.due("none is marked", x.mark(0, 0, 9999, true), -2);
        Check.due("mark(0, 3, 5)", x.mark(0, 3, 5, false), 3);
        Check.due("mark(0, 3, 5)", x.mark(0, 3, 5, false), -2);
        Check.due("mark(0, 1, 4)", x.mark(0, 1, 4, false), 2);
        Check.due("told", Check.told(x, 0), "1-5* 6-9");
        Check.due("mark(0, 5, 9999, not)", x.mark(0, 5, 9999, true), 1);
        Check.due("mark(0, 2, 3, not)", x.mark(0, 2, 3, true), 2);
        Check.due("mark(0, 2, 3, not)", x.mark(0, 2, 3, true), -2);
        Check.due("told", Check.told(x, 0), "1* 2 3 4* 5-9");
    }

    private static void seek() {
        // of 0 .. 6 the tree is 6(1(0, 4(2(, 3), 5)),)
        MeltingHeaps x = Check.with("set 0 0-6;set 1 10 20;");
        Check.due("seek(2, 1) of none", x.seek(2, 1), -2);
        Check.due("seek(8, 1)", x.seek(8, 1), -1);
        Check.due("seek(-1, 1)", x.seek(-1, 1), -1);
        Check.due("seek(0, -1)", x.seek(0, -1), -1);
        Check.due("seek(0, 10000)", x.seek(0, 10000), -1);
        Check.due("seek(2, 10000)", x.seek(2, 10000), -1);
        Check.due("first seek", x.seek(0, 3), 0);
        Check.due("finger", x.set(0, 6), 3);
        Check.due("seek(0, 3)", x.seek(0, 3), 0);
        Check.due("the same one is an act, too", x.count(4), 2);
        Check.due("seek(0, 5)", x.seek(0, 5), 3);
        Check.due("seek(0, 9999)", x.seek(0, 9999), 3);
        Check.due("finger", x.set(0, 6), 6);
        Check.due("seek(0, 0)", x.seek(0, 0), 2);
        Check.due("seek(0, 3)", x.seek(0, 3), 4);
        Check.due("below all", x.seek(1, 9), 0);
        Check.due("finger", x.set(1, 6), 10);
        Check.due("between", x.seek(1, 19), 0);
        Check.due("finger", x.set(1, 6), 10);
        Check.due("at", x.seek(1, 20), 1);
        Check.due("finger", x.set(1, 6), 20);
    }

    private static final String FOUR = "set 0 0-6;set 1 10 20;set 2 15;set 3 10;";

    /** Both SETS with a FINGER, then an act: the FINGERS of SETS 0 to 3 are due. */
    private static MeltingHeaps fingered() {
        MeltingHeaps x = Check.with(FOUR);
        x.seek(0, 3);
        x.seek(1, 10);
        x.seek(2, 15);
        x.seek(3, 10);
        return x;
    }

    private static void dueFingers(String act, MeltingHeaps x, int... fingers) {
        for (int set = 0; set < fingers.length; set++) {
            Check.due(act + ": finger of " + set, x.set(set, 6), fingers[set]);
        }
    }

    private static void fingers() {
        MeltingHeaps x = fingered();
        dueFingers("seek", x, 3, 10, 15, 10);
        x.put(0, 9);
        dueFingers("put", x, -1, 10, 15, 10);
        x = fingered();
        x.put(0, 3);
        x.drop(1, 15);
        x.cut(0, 1, 1);
        x.join(2, 0);
        x.melt(0, 7);
        x.move(0, 1, 2, 0);
        dueFingers("refused acts", x, 3, 10, 15, 10);
        x.drop(0, 6);
        dueFingers("drop", x, -1, 10, 15, 10);
        x = fingered();
        x.cut(0, 3, 5);
        dueFingers("cut", x, -1, 10, 15, 10, -1, -1);
        x = fingered();
        x.join(0, 2);
        dueFingers("join", x, -1, 10, -1, 10);
        x = fingered();
        x.melt(1, 2);
        dueFingers("melt", x, 3, -1, -1, 10);
        x = fingered();
        x.move(2, 15, 15, 1);
        dueFingers("move", x, 3, -1, -1, 10);
        x = fingered();
        x.mark(0, 0, 9, false);
        dueFingers("mark", x, 3, 10, 15, 10);
        x = fingered();
        x.shift(0, 7);
        x.shift(1, -10);
        dueFingers("shift", x, 10, 0, 15, 10);
    }

    /** A SET gets no KEY by TWINS alone, so its FINGER stays; that of the SET that loses them does not. */
    private static void fingersOverTwins() {
        MeltingHeaps x = fingered();
        Check.due("melt of twins alone", x.melt(1, 3), 2);
        dueFingers("melt of twins alone", x, 3, 10, 15, -1);
        Check.due("seek from the finger that stayed", x.seek(1, 20), 1);
        x.undo();
        x.undo();
        dueFingers("undone", x, 3, 10, 15, 10);
        Check.due("melt of a twin and others", x.melt(3, 1), 2);
        dueFingers("melt of a twin and others", x, 3, -1, 15, -1);

        x = Check.with("set 0 0-6;set 1 1 2 5;mark 1 2 2;set 2 0-6;set 3 4-7;");
        x.seek(0, 4);
        x.melt(0, 1);
        Check.due("the mark of a twin comes", Check.told(x, 0), "0 1 2* 3-6");
        dueFingers("a marked twin", x, 4, -1, -1, -1);
        x.seek(2, 6);
        x.melt(0, 2);
        dueFingers("twins of all", x, 4, -1, -1, -1);
        x.melt(0, 3);
        dueFingers("twins and one more", x, -1, -1, -1, -1);

        x = Check.with("set 0 0-59;set 1 0-59;");
        x.seek(0, 59);
        x.melt(0, 1);
        dueFingers("twins of a full one", x, 59, -1);
        x.melt(1, 0);
        dueFingers("all to an empty one", x, -1, -1);
        x.put(0, 7);
        x.melt(1, 0);
        dueFingers("no finger comes by twins", x, -1, -1);
    }

    private static void undo() {
        MeltingHeaps x = new MeltingHeaps();
        Check.due("undo of none", x.undo(), -1);
        for (int k = 0; k < 20; k++) {
            x.put(0, k);
            x.put(0, k);
            Check.due("count(4)", x.count(4), Math.min(k + 1, 12));
        }
        for (int k = 11; k >= 0; k--) {
            Check.due("undo", x.undo(), k);
            Check.due("left", x.set(0, 0), k + 8);
        }
        Check.due("undo", x.undo(), -1);
        Check.due("left", x.set(0, 0), 8);
        Check.due("told", Check.told(x, 0), "0-7");
        x.put(1, 1);
        x.put(1, 2);
        Check.due("undo", x.undo(), 1);
        x.put(1, 3);
        Check.due("undo", x.undo(), 1);
        Check.due("undo", x.undo(), 0);
        Check.due("undo", x.undo(), -1);
        Check.due("set 1 is empty", x.set(1, 0), 0);
        for (int k = 0; k < 12; k++) {
            x.put(2, k);
        }
        // an ACT that is REFUSED must not cost the oldest one that can be UNDONE
        x.put(2, 0);
        for (int k = 11; k >= 0; k--) {
            Check.due("undo", x.undo(), k);
        }
        Check.due("set 2 is empty", x.set(2, 0), 0);
    }

    private static String all(MeltingHeaps x) {
        StringBuilder s = new StringBuilder();
        for (int set = 0; set < 8; set++) {
            s.append(Check.told(x, set)).append('^').append(x.set(set, 6)).append('|');
        }
        return s.toString();
    }

    private static void undoEveryAct() {
        MeltingHeaps x = fingered();
        String[] states = new String[13];
        int n = 0;
        states[n++] = all(x);
        Check.due("mark", x.mark(0, 2, 4, false), 3);
        states[n++] = all(x);
        Check.due("seek", x.seek(0, 6), 4);
        states[n++] = all(x);
        Check.due("shift", x.shift(0, 2), 7);
        states[n++] = all(x);
        Check.due("put", x.put(0, 100), 7);
        states[n++] = all(x);
        Check.due("drop", x.drop(0, 2), 7);
        states[n++] = all(x);
        Check.due("cut", x.cut(0, 4, 4), 5);
        states[n++] = all(x);
        Check.due("join", x.join(0, 1), 4);
        states[n++] = all(x);
        Check.due("melt", x.melt(0, 4), 8);
        states[n++] = all(x);
        Check.due("move", x.move(0, 5, 9, 2), 4);
        states[n++] = all(x);
        x.tell(0);
        Check.feed(x, "abc");
        int told = x.count(7);
        for (int k = n - 2; k >= 0; k--) {
            x.undo();
            Check.due("told stays", x.count(7), told);
            Check.due("undo to state " + k, all(x), states[k]);
            x.tell(0);
            told = x.count(7);
        }
        Check.due("the tape stays", x.count(5), 3);
    }
}
