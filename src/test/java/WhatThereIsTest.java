/** Promises 16 to 22: what there is. */
public final class WhatThereIsTest {
    private static final int MIN = Integer.MIN_VALUE;
    private static final int MAX = Integer.MAX_VALUE;

    /** Of 0 .. 6 the tree is 6(1(0, 4(2(, 3), 5)),), of 2 4 8 9 it is 9(4(2, 8),). */
    private static final String TWO = "set 0 0-6;mark 0 2 4;set 1 2 4 8 9;mark 1 9 9;";

    public static void main(String[] args) {
        set();
        key();
        of();
        within();
        far();
        where();
        count();
        huffman();
        Check.end("WhatThereIsTest");
    }

    private static void dueSet(MeltingHeaps x, int set, int... answers) {
        for (int what = 0; what < answers.length; what++) {
            Check.due("set(" + set + ", " + what + ")", x.set(set, what), answers[what]);
        }
    }

    private static void set() {
        MeltingHeaps x = Check.with(TWO + "set 7 9999;set 6 3 5;");
        x.seek(1, 5);
        dueSet(x, 0, 7, 0, 6, 3, 6, 5, -1, 1, 15, 1, 21, -1);
        dueSet(x, 1, 4, 2, 9, 1, 9, 3, 4, 1, 5, 3, 23, -1);
        dueSet(x, 2, 0, -1, -1, 0, -1, 0, -1, -1, 0, 0, 0, -1);
        dueSet(x, 7, 1, 9999, 9999, 0, 9999, 1, -1, -1, 0, 1, 9999, -1);
        dueSet(x, 6, 2, 3, 5, 0, 5, 2, -1, 2, 1, 2, 8, -1);
        for (int what : new int[] {-1, 11, MIN, MAX}) {
            Check.due("set(0, " + what + ")", x.set(0, what), -1);
        }
        for (int set : new int[] {-1, 8, MIN, MAX}) {
            for (int what = 0; what <= 10; what++) {
                Check.due("set(" + set + ", " + what + ")", x.set(set, what), -1);
            }
        }
        x = Check.with("set 3 0 9999;mark 3 0 9999;set 4 0;mark 4 0 0;");
        Check.due("MARKED ones, the least and greatest KEY among them", x.set(3, 3), 2);
        Check.due("MARKED ones in all", x.count(3), 3);
        x = Check.with("set 3 9940-9999;");
        Check.due("all KEYS of a full one together", x.set(3, 10), 60 * (9940 + 9999) / 2);
        x.drop(3, 9950);
        Check.due("stretches", x.set(3, 9), 2);
        Check.due("least difference", x.set(3, 7), 1);
    }

    private static void key() {
        MeltingHeaps x = Check.with(TWO);
        int[] keys = {2, 4, 8, 9};
        for (int k = 0; k < keys.length; k++) {
            Check.due("key(1, " + k + ")", x.key(1, k), keys[k]);
        }
        for (int k : new int[] {-1, 4, 60, 61, MIN, MAX}) {
            Check.due("key(1, " + k + ")", x.key(1, k), -1);
        }
        Check.due("key(2, 0)", x.key(2, 0), -1);
        Check.due("key(8, 0)", x.key(8, 0), -1);
        Check.due("key(-1, 0)", x.key(-1, 0), -1);
        x = Check.with("set 0 0-59;");
        Check.due("key(0, 59)", x.key(0, 59), 59);
        Check.due("key(0, 60)", x.key(0, 60), -1);
    }

    private static void dueOf(MeltingHeaps x, int set, int key, int... answers) {
        for (int what = 0; what < answers.length; what++) {
            Check.due("of(" + set + ", " + key + ", " + what + ")", x.of(set, key, what), answers[what]);
        }
    }

    private static void of() {
        MeltingHeaps x = Check.with(TWO);
        dueOf(x, 0, 0, 0, 0, 2, 1, -1, -1, 9973, 0, -1);
        dueOf(x, 0, 1, 1, 0, 1, 6, 0, 4, 50476, 5, -1);
        dueOf(x, 0, 2, 2, 1, 3, 4, -1, 3, 25443, 1, -1);
        dueOf(x, 0, 3, 3, 1, 4, 2, -1, -1, 410, 0, -1);
        dueOf(x, 0, 4, 4, 1, 2, 1, 2, 5, 40913, 3, -1);
        dueOf(x, 0, 5, 5, 0, 3, 4, -1, -1, 15880, 0, -1);
        dueOf(x, 0, 6, 6, 0, 0, -1, 1, -1, 56383, 6, -1);
        dueOf(x, 1, 9, 3, 1, 0, -1, 4, -1, 46820, 3, -1);
        dueOf(x, 1, 8, 2, 0, 2, 4, -1, -1, 6317, 0, -1);
        for (int what = -1; what <= 8; what++) {
            Check.due("of(0, 7, " + what + ")", x.of(0, 7, what), -1);
            Check.due("of(2, 0, " + what + ")", x.of(2, 0, what), -1);
            Check.due("of(8, 0, " + what + ")", x.of(8, 0, what), -1);
            Check.due("of(-1, 0, " + what + ")", x.of(-1, 0, what), -1);
            Check.due("of(0, -1, " + what + ")", x.of(0, -1, what), -1);
            Check.due("of(0, MAX, " + what + ")", x.of(0, MAX, what), -1);
        }
        Check.due("of(0, 0, MIN)", x.of(0, 0, MIN), -1);
        Check.due("of(0, 0, MAX)", x.of(0, 0, MAX), -1);
        x = Check.with("set 5 9999;");
        Check.due("PRIORITY of 9999", x.of(5, 9999, 6), (9999 * 40503 + 9973) % 65536);
    }

    private static void within() {
        MeltingHeaps x = Check.with(TWO);
        Check.due("within(0, 1, 3)", x.within(0, 1, 3, false), 3);
        Check.due("within(0, 1, 3, marked)", x.within(0, 1, 3, true), 2);
        Check.due("within(1, 3, 8)", x.within(1, 3, 8, false), 2);
        Check.due("within(1, 5, 7)", x.within(1, 5, 7, false), 0);
        Check.due("within(1, 8, 4)", x.within(1, 8, 4, false), 0);
        Check.due("within(1, 9, 2, marked)", x.within(1, 9, 2, true), 0);
        Check.due("within(1, MIN, MAX)", x.within(1, MIN, MAX, false), 4);
        Check.due("within(1, MIN, MAX, marked)", x.within(1, MIN, MAX, true), 1);
        Check.due("within(1, MAX, MIN)", x.within(1, MAX, MIN, false), 0);
        Check.due("within(2, 0, 9999)", x.within(2, 0, 9999, false), 0);
        Check.due("within(8, 0, 9999)", x.within(8, 0, 9999, false), -1);
        Check.due("within(-1, 0, 9999)", x.within(-1, 0, 9999, true), -1);
    }

    private static void far() {
        MeltingHeaps x = Check.with(TWO);
        Check.due("far(0, 3, 5)", x.far(0, 3, 5), 3);
        Check.due("far(0, 5, 3)", x.far(0, 5, 3), 3);
        Check.due("far(0, 0, 6)", x.far(0, 0, 6), 2);
        Check.due("far(0, 6, 3)", x.far(0, 6, 3), 4);
        Check.due("far(0, 0, 5)", x.far(0, 0, 5), 3);
        Check.due("far(0, 4, 4)", x.far(0, 4, 4), 0);
        Check.due("far(1, 2, 8)", x.far(1, 2, 8), 2);
        Check.due("far(0, 0, 7)", x.far(0, 0, 7), -1);
        Check.due("far(0, 7, 0)", x.far(0, 7, 0), -1);
        Check.due("far(0, 7, 7)", x.far(0, 7, 7), -1);
        Check.due("far(2, 0, 0)", x.far(2, 0, 0), -1);
        Check.due("far(8, 0, 0)", x.far(8, 0, 0), -1);
        Check.due("far(-1, 0, 0)", x.far(-1, 0, 0), -1);
        Check.due("far(0, MIN, MAX)", x.far(0, MIN, MAX), -1);
    }

    private static void where() {
        MeltingHeaps x = Check.with(TWO + "set 7 2 9999;");
        Check.due("where(2)", x.where(2), 1 + 2 + 128);
        Check.due("where(9)", x.where(9), 2);
        Check.due("where(9999)", x.where(9999), 128);
        for (int key : new int[] {7, -1, 10000, MIN, MAX}) {
            Check.due("where(" + key + ")", x.where(key), 0);
        }
    }

    private static void count() {
        MeltingHeaps x = Check.with(TWO + "set 7 2 9999;");
        x.put(3, 4);
        x.seek(3, 4);
        x.tell(0);
        Check.feed(x, "set 0 1;");
        int[] answers = {14, 4, 10, 4, 2, 8, 3 + 7 + 14, 12, -1};
        for (int what = 0; what < answers.length; what++) {
            Check.due("count(" + what + ")", x.count(what), answers[what]);
        }
        Check.due("count(-1)", x.count(-1), -1);
        Check.due("count(MIN)", x.count(MIN), -1);
        Check.due("count(MAX)", x.count(MAX), -1);
        x = Check.with("set 0 0-59;set 1 0-59;set 2 0-59;set 3 30-89;mark 3 0 9999;");
        Check.due("KEYS in all", x.count(0), 240);
        Check.due("unlike KEYS", x.count(2), 90);
        Check.due("MARKED ones", x.count(3), 60);
    }

    private static void huffman() {
        Check.due("HUFFMAN of one", Check.with("set 5 1-9;").count(6), 0);
        Check.due("HUFFMAN of two", Check.with("set 5 1-9;set 2 4;").count(6), 10);
        // 1 1 2 3 5: 2, then 4, then 7, then 12
        Check.due("HUFFMAN of five", Check.with("set 0 1-5;set 1 1-3;set 2 1 2;set 3 1;set 4 1;").count(6), 25);
        // 2 2 2 2: 4, 4, 8
        Check.due("HUFFMAN of like ones", Check.with("set 0 1 2;set 3 1 2;set 5 1 2;set 7 1 2;").count(6), 16);
        // eight of 30: three levels
        Check.due("HUFFMAN of eight", Check.with("set 0 1-30;set 1 1-30;set 2 1-30;set 3 1-30;set 4 1-30;set 5 1-30;set 6 1-30;"
                + "set 7 1-30;").count(6), 720);
    }
}
