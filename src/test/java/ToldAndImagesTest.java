/** Promises 28 to 31: SETS TOLD, and images. */
public final class ToldAndImagesTest {
    private static final int MIN = Integer.MIN_VALUE;
    private static final int MAX = Integer.MAX_VALUE;

    public static void main(String[] args) {
        tell();
        longest();
        octet();
        images();
        imagesHoldAll();
        Check.end("ToldAndImagesTest");
    }

    private static void dueTold(String text, String told) {
        MeltingHeaps x = Check.with(text);
        Check.due("tell(0) of " + text, x.tell(0), told.length());
        Check.due("told of " + text, Check.told(x, 0), told);
    }

    private static void tell() {
        dueTold("", "");
        dueTold("set 0 0;", "0");
        dueTold("set 0 0;mark 0 0 0;", "0*");
        dueTold("set 0 1 2;", "1 2");
        dueTold("set 0 1 2;mark 0 1 2;", "1* 2*");
        dueTold("set 0 1 2;mark 0 2 2;", "1 2*");
        dueTold("set 0 1 2 3;", "1-3");
        dueTold("set 0 1 2 3;mark 0 1 3;", "1-3*");
        dueTold("set 0 1 2 3;mark 0 2 2;", "1 2* 3");
        dueTold("set 0 1-6;mark 0 4 9;", "1-3 4-6*");
        dueTold("set 0 1-6;mark 0 1 3;", "1-3* 4-6");
        dueTold("set 0 1-5;mark 0 3 4;", "1 2 3* 4* 5");
        dueTold("set 0 1 3 5;", "1 3 5");
        dueTold("set 0 8-12 99-101 999-1001;", "8-12 99-101 999-1001");
        dueTold("set 0 0 9 10 11 90 100 1000 9000 9999;", "0 9-11 90 100 1000 9000 9999");
        dueTold("set 0 0-59;", "0-59");
    }

    private static void longest() {
        MeltingHeaps x = new MeltingHeaps();
        StringBuilder told = new StringBuilder();
        for (int k = 0; k < 60; k++) {
            x.put(0, 1000 + 3 * k);
            told.append(k > 0 ? " " : "").append(1000 + 3 * k).append('*');
        }
        x.mark(0, 0, 9999, false);
        Check.due("the longest", x.tell(0), 359);
        Check.due("the longest", Check.told(x, 0), told.toString());
    }

    private static void octet() {
        MeltingHeaps x = Check.with("set 0 7 8;mark 0 8 8;set 1 5-9;");
        x.tell(0);
        int[] bytes = {55, 32, 56, 42, -1};
        for (int i = 0; i < bytes.length; i++) {
            Check.due("octet(" + i + ")", x.octet(i), bytes[i]);
        }
        for (int i : new int[] {-1, 400, MIN, MAX}) {
            Check.due("octet(" + i + ")", x.octet(i), -1);
        }
        for (int set : new int[] {-1, 8, MIN, MAX}) {
            Check.due("tell(" + set + ")", x.tell(set), -1);
        }
        Check.due("what was told stays", x.octet(3), 42);
        x.put(0, 9);
        Check.text(x, "set 0 1;");
        x.undo();
        Check.due("what was told stays", x.octet(3), 42);
        Check.due("what was told stays", x.count(7), 4);
        Check.due("tell(1)", x.tell(1), 0);
        Check.due("octet(0)", x.octet(0), -1);
    }

    private static void images() {
        MeltingHeaps x = new MeltingHeaps();
        for (int k : new int[] {-1, 3, MIN, MAX}) {
            Check.due("image(" + k + ")", x.image(k), false);
            Check.due("again(" + k + ")", x.again(k), false);
        }
        x.put(0, 1);
        Check.due("again(0) without", x.again(0), false);
        Check.due("it undid nothing", x.count(4), 1);
        Check.due("image(0)", x.image(0), true);
        Check.due("image leaves what can be undone", x.count(4), 1);
        x.put(0, 2);
        Check.due("image(2)", x.image(2), true);
        x.put(0, 3);
        Check.due("again(1) without", x.again(1), false);
        Check.due("again(0)", x.again(0), true);
        Check.due("told", Check.told(x, 0), "1");
        Check.due("nothing can be undone", x.undo(), -1);
        Check.due("again(2)", x.again(2), true);
        Check.due("told", Check.told(x, 0), "1 2");
        x.drop(0, 1);
        Check.due("image(0) anew", x.image(0), true);
        x.drop(0, 2);
        Check.due("again(0)", x.again(0), true);
        Check.due("told", Check.told(x, 0), "2");
        Check.due("again(0) once more", x.again(0), true);
        Check.due("an image outlives a text", Check.text(x, "set 3 3;"), 1);
        Check.due("again(2)", x.again(2), true);
        Check.due("told", Check.told(x, 0) + "|" + Check.told(x, 3), "1 2|");
    }

    private static void imagesHoldAll() {
        MeltingHeaps x = Check.with("set 0 1-5;mark 0 2 2;set 7 9999;");
        Check.text(x, "set 0 $");
        x.seek(0, 3);
        x.tell(0);
        Check.feed(x, "set 1 4;");
        x.image(1);
        Check.text(x, "set 2 1-9;");
        x.tell(2);
        Check.feed(x, "set 1 4;     set 2 3-4;");
        x.seek(2, 4);
        Check.due("again(1)", x.again(1), true);
        Check.due("fault(0)", x.fault(0), 1);
        Check.due("fault(1)", x.fault(1), 6);
        Check.due("finger", x.set(0, 6), 3);
        Check.due("finger", x.set(2, 6), -1);
        Check.due("count(0)", x.count(0), 6);
        Check.due("count(3)", x.count(3), 1);
        Check.due("count(5)", x.count(5), 8);
        Check.due("count(7)", x.count(7), 8);
        Check.due("octet(3)", x.octet(3), '*');
        Check.due("told", Check.told(x, 0) + "|" + Check.told(x, 7), "1 2* 3-5|9999");
        Check.due("the tape", x.text(), 1);
        Check.due("key(1, 0)", x.key(1, 0), 4);
        Check.due("fault(0)", x.fault(0), 0);
    }
}
