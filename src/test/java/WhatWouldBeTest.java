/** Promises 23 to 27: what would be. */
public final class WhatWouldBeTest {
    private static final int MIN = Integer.MIN_VALUE;
    private static final int MAX = Integer.MAX_VALUE;

    public static void main(String[] args) {
        pair();
        pairLimits();
        cheapest();
        merged();
        would();
        wouldOfFullOne();
        halves();
        Check.end("WhatWouldBeTest");
    }

    private static void duePair(MeltingHeaps x, int one, int other, int... answers) {
        for (int what = 0; what < answers.length; what++) {
            Check.due("pair(" + one + ", " + other + ", " + what + ")", x.pair(one, other, what), answers[what]);
        }
    }

    private static void pair() {
        MeltingHeaps x = Check.with("set 0 1 2 3 10 11 20;set 1 2 5 6 7 8 11 30;set 2 21-28;set 3 20;");
        // 1 2 3 | 5 6 7 8 | 10 11 20 | 30
        duePair(x, 0, 1, 4, 2, 8, 9, 4, 0, 1, -1);
        // 1 | 2 | 3 | 5 6 7 8 | 10 | 11 | 20 | 30, the first SET's being 2, 5 .. 8, 11, 30
        duePair(x, 1, 0, 8, 2, 10, 9, 4, 0, 1, -1);
        duePair(x, 0, 2, 2, 0, 3 + 4, 14, 8, 1, 1, -1);
        duePair(x, 2, 0, 2, 0, 3 + 4, 14, 8, 0, 1, -1);
        duePair(x, 0, 3, 1, 1, 3, 5, 6, 0, 1, -1);
        duePair(x, 3, 2, 2, 0, 1 + 4, 9, 8, 1, 1, -1);
        duePair(x, 0, 4, 1, 0, 3, 6, 6, 0, 0, -1);
        duePair(x, 4, 0, 1, 0, 3, 6, 6, 1, 1, -1);
        duePair(x, 4, 5, 0, 0, 0, 0, 0, 0, 0, -1);
        for (int what = -1; what <= 7; what++) {
            Check.due("pair(0, 0, " + what + ")", x.pair(0, 0, what), -1);
            Check.due("pair(0, 8, " + what + ")", x.pair(0, 8, what), -1);
            Check.due("pair(8, 0, " + what + ")", x.pair(8, 0, what), -1);
            Check.due("pair(-1, 0, " + what + ")", x.pair(-1, 0, what), -1);
            Check.due("pair(0, MIN, " + what + ")", x.pair(0, MIN, what), -1);
            Check.due("pair(8, 8, " + what + ")", x.pair(8, 8, what), -1);
        }
        Check.due("pair(0, 1, -1)", x.pair(0, 1, -1), -1);
        Check.due("pair(0, 1, MAX)", x.pair(0, 1, MAX), -1);
    }

    private static void pairLimits() {
        MeltingHeaps x = Check.with("set 0 0-29;set 1 30-59;set 2 30-60;set 3 29-59;");
        duePair(x, 0, 1, 2, 0, 10, 60, 30, 1, 1);
        duePair(x, 0, 2, 2, 0, 10, 61, 31, 0, 0);
        duePair(x, 0, 3, 2, 1, 10, 59, 30, 0, 1);
        x = Check.with("set 0 0-59;set 1 0-59;");
        duePair(x, 0, 1, 1, 60, 6, 0, 60, 0, 1);
        Check.due("a MELT costs what pair told", x.melt(0, 1), 6);
    }

    private static void dueCheapest(String text, int one, int other, int cost) {
        MeltingHeaps x = Check.with(text);
        Check.due("cheapest(0) of " + text, x.cheapest(0), one);
        Check.due("cheapest(1) of " + text, x.cheapest(1), other);
        Check.due("cheapest(2) of " + text, x.cheapest(2), cost);
        for (int what : new int[] {-1, 3, MIN, MAX}) {
            Check.due("cheapest(" + what + ")", x.cheapest(what), -1);
        }
    }

    private static void cheapest() {
        dueCheapest("", -1, -1, -1);
        dueCheapest("set 4 1-9;", -1, -1, -1);
        dueCheapest("set 4 1-9;set 6 5;", 4, 6, 4);
        // the lesser number first: 1 | 5 .. and not the other way round
        dueCheapest("set 2 5;set 4 1-9;", 2, 4, 3 + 1 + 3);
        dueCheapest("set 1 1;set 3 2;set 5 3;", 1, 3, 2);
        dueCheapest("set 1 1 9;set 3 2;set 5 3;", 3, 5, 2);
        dueCheapest("set 1 1 9;set 3 2;set 5 30;", 3, 5, 2);
        dueCheapest("set 0 5;set 3 5;set 5 5;set 7 5;", 0, 3, 1);
        // 0 and 1 would be 61
        dueCheapest("set 0 0-29;set 1 30-60;", -1, -1, -1);
        dueCheapest("set 0 0-29;set 1 30-60;set 2 1 100 3 102;", 0, 2, 5 + 2);
    }

    private static void merged() {
        MeltingHeaps x = Check.with("set 0 1 5 9;set 3 1 2 9;set 7 0 5 9999;");
        int[] keys = {0, 1, 1, 2, 5, 5, 9, 9, 9999};
        for (int k = 0; k < keys.length; k++) {
            Check.due("merged(" + k + ")", x.merged(k), keys[k]);
        }
        for (int k : new int[] {-1, 9, 240, MIN, MAX}) {
            Check.due("merged(" + k + ")", x.merged(k), -1);
        }
        x = Check.with("set 0 0-59;set 1 0-59;set 2 0-59;set 3 0-59;");
        Check.due("merged(239)", x.merged(239), 59);
        Check.due("merged(238)", x.merged(238), 59);
        Check.due("merged(235)", x.merged(235), 58);
        Check.due("merged(240)", x.merged(240), -1);
        Check.due("merged(0) of none", new MeltingHeaps().merged(0), -1);
    }

    private static void would() {
        // 6(1(0, 4(2(, 3), 5)),): without 2 it is 6(1(0, 4(3, 5)),)
        MeltingHeaps x = Check.with("set 0 0-6;set 1 7;");
        Check.due("would(0, 2, gone)", x.would(0, 2, true), 4);
        Check.due("would(0, 3, gone)", x.would(0, 3, true), 4);
        Check.due("would(0, 5, gone)", x.would(0, 5, true), 5);
        Check.due("would(0, 6, gone)", x.would(0, 6, true), 4);
        Check.due("would(0, 7)", x.would(0, 7, false), 5);
        // PRIORITY of 101 is 37544, that of 6 is 56383: it comes right of it
        Check.due("would(0, 101)", x.would(0, 101, false), 5);
        Check.due("would(1, 7, gone)", x.would(1, 7, true), 0);
        Check.due("would(3, 7)", x.would(3, 7, false), 1);
        Check.due("would(0, 6)", x.would(0, 6, false), -1);
        Check.due("would(0, 7, gone)", x.would(0, 7, true), -1);
        Check.due("would(3, 7, gone)", x.would(3, 7, true), -1);
        Check.due("would(8, 7)", x.would(8, 7, false), -1);
        Check.due("would(-1, 7, gone)", x.would(-1, 7, true), -1);
        Check.due("would(0, -1)", x.would(0, -1, false), -1);
        Check.due("would(0, -1, gone)", x.would(0, -1, true), -1);
        Check.due("would(0, 10000)", x.would(0, 10000, false), -1);
        Check.due("would(0, MAX)", x.would(0, MAX, false), -1);
        Check.due("nothing is done", Check.told(x, 0) + "|" + Check.told(x, 1) + "|" + x.count(4), "0-6|7|0");
    }

    /** KEYS 55 apart from 1 on hang each right of the one before: the deepest trees, and a 61st KEY is asked about alike. */
    private static void wouldOfFullOne() {
        MeltingHeaps x = new MeltingHeaps();
        for (int k = 0; k < 60; k++) {
            x.put(2, 1 + 55 * k);
        }
        Check.due("HIGH", x.set(2, 5), 60);
        Check.due("all DEPTHS", x.set(2, 8), 59 * 60 / 2);
        Check.due("DEPTH of the last", x.of(2, 1 + 55 * 59, 2), 59);
        Check.due("below the first", x.of(2, 1, 7), 59);
        Check.due("from end to end", x.far(2, 1, 1 + 55 * 59), 59);
        Check.due("a 61st", x.would(2, 1 + 55 * 60, false), 61);
        Check.due("the last gone", x.would(2, 1 + 55 * 59, true), 59);
        Check.due("the first gone", x.would(2, 1, true), 59);
        Check.due("not there", x.would(2, 2, true), -1);
        Check.due("nothing is done", x.set(2, 0), 60);
        x = Check.with("set 0 0-59;set 1 0-59;set 2 0-59;set 3 0-59;");
        Check.due("a 241st", x.would(7, 5, false), 1);
    }

    private static void halves() {
        MeltingHeaps x = Check.with("set 0 1 2;set 1 1 2 3;set 2 10 20 30 40;set 3 5;set 4 0-59;");
        Check.due("halves(0)", x.halves(0), 1);
        Check.due("halves(1)", x.halves(1), 2);
        Check.due("halves(2)", x.halves(2), 20);
        Check.due("halves(3)", x.halves(3), -1);
        Check.due("halves(4)", x.halves(4), 29);
        Check.due("halves(5)", x.halves(5), -1);
        Check.due("halves(8)", x.halves(8), -1);
        Check.due("halves(-1)", x.halves(-1), -1);
        x.cut(1, x.halves(1), 7);
        Check.due("two are left", x.set(1, 0), 2);
    }
}
