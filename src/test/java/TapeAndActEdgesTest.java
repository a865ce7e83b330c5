/** Boundary cases of promises 1 to 15: a method a sentence, whose words stand at its head. */
public final class TapeAndActEdgesTest {
    private static final int MIN = Integer.MIN_VALUE;
    private static final int MAX = Integer.MAX_VALUE;
    private static final String FULL = "set 0 0-59;set 1 0-59;set 2 0-59;set 3 0-59;";

    public static void main(String[] args) {
        allSetsEmpty();
        noImages();
        objectsOfTheirOwn();
        twentyBytes();
        highestFirst();
        feedBeyond();
        end();
        endBeyond();
        tapeIsTaken();
        setsAsTold();
        nothingUndoneBehindText();
        howManyInAll();
        faultLeavesAll();
        faultOfLatest();
        otherFault();
        put();
        drop();
        cut();
        join();
        melt();
        shift();
        move();
        mark();
        seek();
        undo();
        everyActIsUndone();
        undoOfNone();
        for (int promise = 1; promise <= 15; promise++) {
            Sentences.dueAll("Promise " + promise);
        }
        Check.end("TapeAndActEdgesTest");
    }

    // ---- promise 1

    private static void allSetsEmpty() {
        Sentences.hold("Promise 1", "All SETS empty");
        MeltingHeaps x = new MeltingHeaps();
        for (int set = 0; set < 8; set++) {
            Check.due("set(" + set + ", 0)", x.set(set, 0), 0);
            Check.due("tell(" + set + ")", x.tell(set), 0);
        }
        Check.due("KEYS in all", x.count(0), 0);
        Check.due("bytes on the tape", x.count(5), 0);
        Check.due("what can be UNDONE", x.count(4), 0);
        Check.due("fault(0)", x.fault(0), 0);
        Check.due("fault(1)", x.fault(1), -1);
    }

    private static void noImages() {
        Sentences.hold("Promise 1", "no images.");
        MeltingHeaps x = new MeltingHeaps();
        for (int k = 0; k < 3; k++) {
            Check.due("again(" + k + ")", x.again(k), false);
        }
    }

    private static void objectsOfTheirOwn() {
        Sentences.hold("Promise 1", "All SETS empty; no images.");
        MeltingHeaps one = Check.with("set 0 1-9;");
        one.image(0);
        one.tell(0);
        Check.feed(one, "abc");
        MeltingHeaps other = new MeltingHeaps();
        Check.due("another object has no KEYS", other.count(0), 0);
        Check.due("no image", other.again(0), false);
        Check.due("no tape", other.count(5), 0);
        Check.due("nothing TOLD", other.count(7), 0);
        other.put(0, 99);
        Check.due("and changes nothing of the first", one.set(0, 0), 9);
    }

    // ---- promises 2 and 3

    private static void twentyBytes() {
        Sentences.hold("Promise 2", "The tape: twenty bytes come behind it");
        MeltingHeaps x = new MeltingHeaps();
        Check.due("to an empty one", x.feed(0, 0, 0, 0, 0), 20);
        Check.due("behind twenty", x.feed(-1, -1, -1, -1, -1), 40);
        Check.due("end(33)", x.end(33), 33);
        Check.due("behind 33", x.feed(0, 0, 0, 0, 0), 53);
        Check.due("count(5)", x.count(5), 53);
    }

    private static void highestFirst() {
        Sentences.hold("Promise 2", "of each number the highest first: how many it has.");
        MeltingHeaps x = new MeltingHeaps();
        // "set " "0 12" "34 5" "6;se" "t 1;"
        Check.due("feed", x.feed(0x73657420, 0x30203132, 0x33342035, 0x363B7365, 0x7420313B), 20);
        Check.due("text", x.text(), 2);
        Check.due("told", Check.told(x, 0), "56 1234");
        // a byte of 128 or more, in the highest place too, is one byte and no more
        x.feed(0xFF202020, 0, 0, 0, 0);
        Check.due("byte 255 at 0", x.text(), -1);
        Check.due("place", x.fault(1), 0);
        x.feed(0x20202020, 0x20202020, 0x20202020, 0x20202020, 0x202020FF);
        Check.due("byte 255 at 19", x.text(), -1);
        Check.due("place", x.fault(1), 19);
    }

    private static void feedBeyond() {
        Sentences.hold("Promise 2", "NONE, and nothing comes, if there would be more than 800.");
        MeltingHeaps x = new MeltingHeaps();
        for (int n = 1; n <= 39; n++) {
            x.feed(0x20202020, 0x20202020, 0x20202020, 0x20202020, 0x20202020);
        }
        Check.due("780", x.count(5), 780);
        Check.due("just 800", x.feed(0x20202020, 0x20202020, 0x20202020, 0x20202020, 0x20202020), 800);
        Check.due("820", x.feed(0, 0, 0, 0, 0), -1);
        Check.due("nothing came", x.count(5), 800);
        x.end(781);
        Check.due("801", x.feed(0, 0, 0, 0, 0), -1);
        Check.due("nothing came", x.count(5), 781);
        Check.due("blanks alone are on it", x.text(), 0);
    }

    private static void end() {
        Sentences.hold("Promise 3", "The tape has its first n bytes alone: n.");
        MeltingHeaps x = new MeltingHeaps();
        Check.due("0 of none", x.end(0), 0);
        x.feed(0x73657420, 0x3020353B, 0x24242424, 0, 0);
        Check.due("all", x.end(20), 20);
        Check.due("count(5)", x.count(5), 20);
        Check.due("the first 8", x.end(8), 8);
        Check.due("count(5)", x.count(5), 8);
        Check.due("they are what they were", x.text(), 1);
        x.feed(0, 0, 0, 0, 0);
        Check.due("none", x.end(0), 0);
        Check.due("count(5)", x.count(5), 0);
    }

    private static void endBeyond() {
        Sentences.hold("Promise 3", "NONE if it has not so many, or n is below 0.");
        MeltingHeaps x = new MeltingHeaps();
        for (int n : new int[] {1, MAX, -1, MIN}) {
            Check.due("end(" + n + ") of none", x.end(n), -1);
        }
        x.feed(0, 0, 0, 0, 0);
        for (int n : new int[] {21, 800, 801, MAX, -1, -20, MIN}) {
            Check.due("end(" + n + ")", x.end(n), -1);
            Check.due("all stay", x.count(5), 20);
        }
    }

    // ---- promises 4 and 5

    private static void tapeIsTaken() {
        Sentences.hold("Promise 4", "The tape is taken (and is empty then) as a TEXT");
        MeltingHeaps x = new MeltingHeaps();
        Check.due("text", Check.text(x, "set 0 5;"), 1);
        Check.due("empty behind a good one", x.count(5), 0);
        Check.due("text", Check.text(x, "set 0"), -1);
        Check.due("empty behind one with a FAULT", x.count(5), 0);
        Check.due("what comes is a text of its own", Check.text(x, "set 0 7;"), 1);
        Check.due("an empty tape is one", x.text(), 0);
    }

    private static void setsAsTold() {
        Sentences.hold("Promise 4", "SETS are as it tells");
        MeltingHeaps x = Check.with("set 0 1-9;mark 0 1 9;set 7 5;");
        x.seek(0, 5);
        x.tell(0);
        Check.due("text", Check.text(x, "set 0 1-3;"), 3);
        Check.due("SET 0, no marks", Check.told(x, 0), "1-3");
        Check.due("SET 7, of which it tells nothing, is empty", x.set(7, 0), 0);
        Check.due("no FINGER", x.set(0, 6), -1);
        x.tell(0);
        x.text();
        Check.due("what was TOLD is no SET", x.count(7), 3);
    }

    private static void nothingUndoneBehindText() {
        Sentences.hold("Promise 4", "(nothing can be UNDONE)");
        MeltingHeaps x = new MeltingHeaps();
        for (int k = 0; k < 13; k++) {
            x.put(0, k);
        }
        Check.text(x, "set 0 1;shift 0 1;");
        Check.due("count(4)", x.count(4), 0);
        Check.due("undo", x.undo(), -1);
        Check.due("key", x.key(0, 0), 2);
        x.put(0, 9);
        Check.due("what is done then can be", x.undo(), 0);
        Check.due("undo", x.undo(), -1);
    }

    private static void howManyInAll() {
        Sentences.hold("Promise 4", "how many KEYS in all.");
        MeltingHeaps x = new MeltingHeaps();
        Check.due("none", Check.text(x, "set 0;set 7;"), 0);
        Check.due("TWINS count each", Check.text(x, "set 0 5;set 7 5;"), 2);
        Check.due("TWINS that were melted count once", Check.text(x, "set 0 5;set 7 5;melt 0 7;"), 1);
        Check.due("as many as there may be", Check.text(x, FULL), 240);
    }

    private static void faultLeavesAll() {
        Sentences.hold("Promise 4", "NONE: a FAULT (all else stays).");
        MeltingHeaps x = Check.with("set 0 1-9;mark 0 2 3;set 7 9999;");
        x.seek(0, 5);
        x.tell(0);
        x.image(2);
        x.put(1, 1);
        String[] texts = {"$", "set 0 5-4;", "set 0 0-60;", "set 1 5;melt 2 1;melt 1 1;"};
        for (int kind = 1; kind <= 4; kind++) {
            Check.due("text", Check.text(x, texts[kind - 1]), -1);
            Check.due("fault(0)", x.fault(0), kind);
            Check.due("KEYS", x.count(0), 11);
            Check.due("marks", x.count(3), 2);
            Check.due("FINGER", x.set(0, 6), 5);
            Check.due("what was TOLD", x.count(7), 11);
            Check.due("what can be UNDONE", x.count(4), 2);
        }
        Check.due("told", Check.told(x, 0) + "|" + Check.told(x, 1) + "|" + Check.told(x, 7), "1 2* 3* 4-9|1|9999");
        Check.due("undo", x.undo(), 1);
        Check.due("set(1, 0)", x.set(1, 0), 0);
        Check.due("image", x.again(2), true);
    }

    private static void faultOfLatest() {
        Sentences.hold("Promise 5", "Of the latest text(), what 0: the FAULT, 0 without, 1: its place, NONE without.");
        MeltingHeaps x = new MeltingHeaps();
        Check.due("no text yet", x.fault(0), 0);
        Check.due("no text yet", x.fault(1), -1);
        Check.text(x, "set 0 1;set 8;");
        Check.due("a FAULT", x.fault(0), 2);
        Check.due("its place", x.fault(1), 12);
        x.put(0, 1);
        x.undo();
        x.feed(0, 0, 0, 0, 0);
        x.end(0);
        Check.due("it stays till the next text", x.fault(0), 2);
        Check.due("its place stays", x.fault(1), 12);
        Check.text(x, "$");
        Check.due("the latest one", x.fault(0), 1);
        Check.due("place 0 is a place", x.fault(1), 0);
        x.text();
        Check.due("without", x.fault(0), 0);
        Check.due("without", x.fault(1), -1);
    }

    private static void otherFault() {
        Sentences.hold("Promise 5", "NONE for another what.");
        MeltingHeaps x = new MeltingHeaps();
        Check.text(x, "set 0 0-60;");
        for (int what : new int[] {-1, 2, 3, MIN, MAX}) {
            Check.due("fault(" + what + ")", x.fault(what), -1);
        }
    }

    // ---- promises 6 to 15

    private static void put() {
        Sentences.hold("Promise 6", "PUT: its RANK.");
        MeltingHeaps x = Check.with("set 0 1-58;");
        Check.due("below all", x.put(0, 0), 0);
        Check.due("above all, the 60th", x.put(0, 9999), 59);
        Check.due("to an empty one", x.put(7, 9999), 0);
        x.drop(0, 30);
        Check.due("in between", x.put(0, 30), 30);
    }

    private static void drop() {
        Sentences.hold("Promise 7", "DROP: how many are left.");
        MeltingHeaps x = Check.with("set 0 0-59;set 1 9999;");
        Check.due("of 60", x.drop(0, 0), 59);
        Check.due("of 59", x.drop(0, 59), 58);
        Check.due("of one", x.drop(1, 9999), 0);
    }

    private static void cut() {
        Sentences.hold("Promise 8", "CUT: how many go.");
        MeltingHeaps x = Check.with("set 0 0-59;");
        Check.due("one", x.cut(0, 58, 1), 1);
        Check.due("all but one", x.cut(0, 0, 2), 58);
        Check.due("all", x.cut(2, 0, 3), 58);
        Check.due("60", Check.with("set 0 1-60;").cut(0, 0, 7), 60);
    }

    private static void join() {
        Sentences.hold("Promise 9", "JOIN: how many there are then.");
        MeltingHeaps x = Check.with("set 0 0-57;set 1 58;set 2 9999;");
        Check.due("59", x.join(0, 1), 59);
        Check.due("60", x.join(0, 2), 60);
        Check.due("to an empty one", x.join(1, 0), 60);
    }

    private static void melt() {
        Sentences.hold("Promise 10", "MELT: its COST.");
        MeltingHeaps x = Check.with("set 0 5;set 1 4 6;set 2 5;set 3 5;");
        Check.due("TWINS of one KEY", x.melt(2, 3), 1);
        Check.due("the second around the first", x.pair(0, 1, 2), 3);
        Check.due("it is done", x.melt(0, 1), 3);
        Check.due("to an empty one", x.melt(7, 0), 2);
        // 5 in the first parts 4 and 6 of the second, the TWIN being left out there
        Check.due("a TWIN", x.melt(2, 7), 3);
    }

    private static void shift() {
        Sentences.hold("Promise 11", "SHIFT: how many there are.");
        MeltingHeaps x = Check.with("set 0 0-59;set 1 9999;");
        Check.due("60", x.shift(0, 9940), 60);
        Check.due("one", x.shift(1, -9999), 1);
    }

    private static void move() {
        Sentences.hold("Promise 12", "MOVE: how many go.");
        MeltingHeaps x = Check.with("set 0 0-59;");
        Check.due("one, the greatest", x.move(0, 59, 9999, 1), 1);
        Check.due("one, the least", x.move(0, 0, 0, 1), 1);
        Check.due("all that are left", x.move(0, 0, 9999, 1), 58);
        Check.due("60", x.move(1, 0, 59, 7), 60);
    }

    private static void mark() {
        Sentences.hold("Promise 13", "MARK (or not): of how many that is another one.");
        MeltingHeaps x = Check.with("set 0 0-59;");
        Check.due("one", x.mark(0, 59, 59, false), 1);
        Check.due("all but one, which is already", x.mark(0, 0, 9999, false), 59);
        Check.due("not, one", x.mark(0, 0, 0, true), 1);
        Check.due("not, all but one", x.mark(0, 0, 9999, true), 59);
        Check.due("none", x.mark(0, 0, 9999, true), -2);
    }

    private static void seek() {
        Sentences.hold("Promise 14", "SEEK: how FAR it goes (0 from none).");
        // 6(1(0, 4(2(, 3), 5)),)
        MeltingHeaps x = Check.with("set 0 0-6;" + Check.line(1, 1, 55, 60));
        Check.due("from none to the lowest", x.seek(0, 3), 0);
        Check.due("to the same", x.seek(0, 3), 0);
        Check.due("one step", x.seek(0, 2), 1);
        Check.due("over the ROOT's left", x.seek(0, 0), 3);
        Check.due("to the ROOT", x.seek(0, 9999), 2);
        x.put(0, 7);
        Check.due("from none again", x.seek(0, 3), 0);
        Check.due("from none to the last", x.seek(1, 9999), 0);
        Check.due("as FAR as it goes", x.seek(1, 0), 59);
        Check.due("and back", x.seek(1, 9999), 59);
    }

    private static void undo() {
        Sentences.hold("Promise 15", "The latest ACT is UNDONE: how many more can be.");
        MeltingHeaps x = Check.with("set 0 5 6;mark 0 6 6;");
        x.seek(0, 6);
        x.tell(0);
        x.melt(1, 0);
        Check.due("undo", x.undo(), 1);
        Check.due("told", Check.told(x, 0) + "|" + Check.told(x, 1), "5 6*|");
        Check.due("FINGER", x.set(0, 6), 6);
        Check.due("undo of the SEEK", x.undo(), 0);
        Check.due("FINGER", x.set(0, 6), -1);
        for (int k = 0; k < 12; k++) {
            x.put(2, k);
        }
        Check.due("one of twelve", x.undo(), 11);
        x.put(2, 99);
        Check.due("twelve again", x.count(4), 12);
        Check.due("that one goes first", x.undo(), 11);
        for (int k = 10; k >= 0; k--) {
            Check.due("undo", x.undo(), k);
            Check.due("left", x.set(2, 0), k);
        }
        Check.due("asking or telling is no ACT", x.tell(0), 4);
        Check.due("count(4)", x.count(4), 0);
    }

    private interface Act {
        int on(MeltingHeaps x);
    }

    /** All SETS as TOLD, and what else there is. */
    private static String all(MeltingHeaps x) {
        StringBuilder s = new StringBuilder();
        for (int set = 0; set < 8; set++) {
            s.append(Check.told(x, set)).append('|');
        }
        return s.append(Check.print(x)).toString();
    }

    /** SEEKS go ahead: were the state before an ACT not kept, an older one would come back. */
    private static void dueUndone(String name, Act act) {
        MeltingHeaps x = Check.with("set 0 1-9;mark 0 3 5;set 1 20 30;mark 1 30 30;set 2 2 4;mark 2 4 4;");
        x.seek(0, 4);
        x.seek(1, 30);
        x.seek(2, 2);
        String before = all(x);
        Check.due(name + " is not REFUSED", act.on(x) >= 0, true);
        Check.due(name + " is done", all(x).equals(before), false);
        Check.due("undo of " + name, x.undo(), 3);
        Check.due("all behind undo of " + name, all(x), before);
        Check.due("undo of the SEEK before", x.undo(), 2);
        Check.due("FINGER of the SEEK before", x.set(2, 6), -1);
        Check.due("FINGER of that before", x.set(1, 6), 30);
    }

    private static void everyActIsUndone() {
        Sentences.hold("Promise 15", "The latest ACT is UNDONE");
        dueUndone("put", x -> x.put(0, 0));
        dueUndone("put to an empty one", x -> x.put(7, 9999));
        dueUndone("drop", x -> x.drop(0, 4));
        dueUndone("cut", x -> x.cut(0, 4, 7));
        dueUndone("cut of all", x -> x.cut(0, 0, 7));
        dueUndone("join", x -> x.join(0, 1));
        dueUndone("join to an empty one", x -> x.join(7, 0));
        dueUndone("melt", x -> x.melt(1, 0));
        dueUndone("melt of TWINS alone", x -> x.melt(0, 2));
        dueUndone("shift", x -> x.shift(0, 9990));
        dueUndone("shift down", x -> x.shift(0, -1));
        dueUndone("move", x -> x.move(0, 4, 9999, 1));
        dueUndone("move of all", x -> x.move(0, 0, 9999, 7));
        dueUndone("mark", x -> x.mark(0, 0, 9999, false));
        dueUndone("mark not", x -> x.mark(0, 4, 4, true));
        dueUndone("seek", x -> x.seek(0, 9));
        dueUndone("seek in another SET", x -> x.seek(1, 20));
    }

    private static void undoOfNone() {
        Sentences.hold("Promise 15", "NONE: none can.");
        MeltingHeaps x = new MeltingHeaps();
        Check.due("a new object", x.undo(), -1);
        x.put(0, 10000);
        Check.due("behind one that is REFUSED", x.undo(), -1);
        x.put(0, 1);
        x.undo();
        Check.due("what was UNDONE is no ACT", x.undo(), -1);
        Check.due("it stays UNDONE", x.count(0), 0);
        for (int k = 0; k < 20; k++) {
            x.put(0, k);
        }
        for (int k = 0; k < 12; k++) {
            x.undo();
        }
        Check.due("behind twelve", x.undo(), -1);
        Check.due("those before stay", x.set(0, 0), 8);
        x.image(0);
        x.put(0, 99);
        x.again(0);
        Check.due("behind again()", x.undo(), -1);
    }
}
