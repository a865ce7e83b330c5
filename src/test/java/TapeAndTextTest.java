/** Promises 1 to 5: a new object, the tape, TEXTS and their FAULTS. */
public final class TapeAndTextTest {
    public static void main(String[] args) {
        newObject();
        tape();
        texts();
        linesOfText();
        faultOne();
        faultTwo();
        faultThree();
        faultFour();
        firstFaultMet();
        Check.end("TapeAndTextTest");
    }

    private static void newObject() {
        MeltingHeaps x = new MeltingHeaps();
        for (int set = 0; set < 8; set++) {
            Check.due("new set(" + set + ", 0)", x.set(set, 0), 0);
            Check.due("new set(" + set + ", 6)", x.set(set, 6), -1);
        }
        for (int k = 0; k < 3; k++) {
            Check.due("new again(" + k + ")", x.again(k), false);
        }
        Check.due("new fault(0)", x.fault(0), 0);
        Check.due("new fault(1)", x.fault(1), -1);
        for (int what = 0; what < 8; what++) {
            Check.due("new count(" + what + ")", x.count(what), 0);
        }
        Check.due("new undo()", x.undo(), -1);
        Check.due("new octet(0)", x.octet(0), -1);
    }

    private static void tape() {
        MeltingHeaps x = new MeltingHeaps();
        // s e t blank | 2 blank 7 ; | then blanks: of each number the highest byte comes first
        Check.due("feed", x.feed(0x73657420, 0x3220373B, 0x20202020, 0x20202020, 0x0A0A0A0A), 20);
        Check.due("count(5)", x.count(5), 20);
        Check.due("end(21)", x.end(21), -1);
        Check.due("end(-1)", x.end(-1), -1);
        Check.due("end(max)", x.end(Integer.MAX_VALUE), -1);
        Check.due("end(min)", x.end(Integer.MIN_VALUE), -1);
        Check.due("end(20)", x.end(20), 20);
        Check.due("end(8)", x.end(8), 8);
        Check.due("count(5)", x.count(5), 8);
        Check.due("text", x.text(), 1);
        Check.due("key(2, 0)", x.key(2, 0), 7);
        Check.due("count(5) behind text()", x.count(5), 0);
        for (int n = 1; n <= 40; n++) {
            Check.due("feed " + n, x.feed(0, 0, 0, 0, 0), 20 * n);
        }
        Check.due("feed beyond 800", x.feed(0, 0, 0, 0, 0), -1);
        Check.due("count(5)", x.count(5), 800);
        Check.due("end(781)", x.end(781), 781);
        Check.due("feed beyond 800", x.feed(0, 0, 0, 0, 0), -1);
        Check.due("count(5)", x.count(5), 781);
        Check.due("end(780)", x.end(780), 780);
        Check.due("feed to 800", x.feed(0, 0, 0, 0, 0), 800);
        Check.due("end(0)", x.end(0), 0);
        Check.due("end(1)", x.end(1), -1);
    }

    private static void texts() {
        MeltingHeaps x = Check.with("set 0 1 2 3;set 1 9;");
        x.seek(0, 2);
        x.put(3, 3);
        Check.due("count(4)", x.count(4), 2);
        Check.due("text anew", Check.text(x, "set 0 1 2 3;"), 3);
        Check.due("nothing can be undone", x.count(4), 0);
        Check.due("undo()", x.undo(), -1);
        Check.due("set 1 is empty", x.set(1, 0), 0);
        Check.due("no finger", x.set(0, 6), -1);
        Check.due("fault(2)", x.fault(2), -1);
        Check.due("fault(-1)", x.fault(-1), -1);
        Check.due("no text", Check.text(x, ""), 0);
        Check.due("blanks alone", Check.text(x, "  \n "), 0);
        Check.due("a set without keys", Check.text(x, "set 7;"), 0);
        Check.due("no blanks needed", Check.text(x, "set0 1-3 2;shift0-1;"), 3);
        Check.due("shifted", Check.told(x, 0), "0-2");
        Check.due("blanks anywhere", Check.text(x, "\n set\n0  5 -\n 7 ; "), 3);
        Check.due("told", Check.told(x, 0), "5-7");
        Check.due("digits with noughts ahead", Check.text(x, "set 0007 0010 9999 0;"), 3);
        Check.due("told", Check.told(x, 7), "0 10 9999");
        Check.due("a range of one", Check.text(x, "set 1 4-4;"), 1);
        Check.due("keys that are there are of no matter", Check.text(x, "set 1 0-59 0-59 7;set 1 3;"), 60);
        Check.due("240 in all", Check.text(x, "set 0 0-59;set 1 0-59;set 2 0-59;set 3 0-59;set 4;set 0 5;"), 240);
        Check.due("a bad text", Check.text(x, "set 0 1"), -1);
        Check.due("fault(0)", x.fault(0), 1);
        Check.due("fault(1)", x.fault(1), 7);
        Check.due("all stays", x.count(0), 240);
        Check.due("a good text", Check.text(x, "set 0 1;"), 1);
        Check.due("fault(0)", x.fault(0), 0);
        Check.due("fault(1)", x.fault(1), -1);
    }

    private static void linesOfText() {
        MeltingHeaps x = Check.with("set 0 1-5;mark 0 2 3;cut 0 3 1;");
        Check.due("mark, cut", Check.told(x, 0) + "|" + Check.told(x, 1), "1 2* 3*|4 5");
        x = Check.with("set 0 1-3;set 1 7;join 0 1;");
        Check.due("join", Check.told(x, 0) + "|" + Check.told(x, 1), "1-3 7|");
        x = Check.with("set 0 1-3;set 1 2 9;mark 1 0 9999;melt 0 1;");
        Check.due("melt", Check.told(x, 0) + "|" + Check.told(x, 1), "1 2* 3 9*|");
        x = Check.with("set 0 1-3;shift 0 9996;");
        Check.due("shift", Check.told(x, 0), "9997-9999");
        x = Check.with("set 0 10;shift 0 -10;");
        Check.due("shift down", Check.told(x, 0), "0");
        x = Check.with("set 0 1-9;set 3 2 8;move 0 3 7 3;");
        Check.due("move", Check.told(x, 0) + "|" + Check.told(x, 3), "1 2 8 9|2-8");
    }

    private static void faultOne() {
        Check.dueFault("put 0 5;", 1, 0);
        Check.dueFault("sett 0 5;", 1, 0);
        Check.dueFault("se", 1, 0);
        Check.dueFault("setz 0;", 1, 0);
        Check.dueFault("seta 0;", 1, 0);
        Check.dueFault("set{ 0;", 1, 3);
        Check.dueFault("set` 0;", 1, 3);
        Check.dueFault("set 0 1/2;", 1, 7);
        Check.dueFault("set 0 1:2;", 1, 7);
        Check.dueFault("Set 0 5;", 1, 0);
        Check.dueFault(" ;", 1, 1);
        Check.dueFault("set 0 5;;", 1, 8);
        Check.dueFault("5", 1, 0);
        Check.dueFault("-", 1, 0);
        Check.dueFault("set", 1, 3);
        Check.dueFault("set  ", 1, 5);
        Check.dueFault("set ;", 1, 4);
        Check.dueFault("set - 5;", 1, 4);
        Check.dueFault("set 0", 1, 5);
        Check.dueFault("set 0-5;", 1, 5);
        Check.dueFault("set 0 5-", 1, 8);
        Check.dueFault("set 0 5-;", 1, 8);
        Check.dueFault("set 0 5--7;", 1, 8);
        Check.dueFault("set 0 5-7-9;", 1, 9);
        Check.dueFault("set 0 set", 1, 6);
        Check.dueFault("set 0 12345;", 1, 6);
        Check.dueFault("set 0 00001;", 1, 6);
        Check.dueFault("set 00000;", 1, 4);
        Check.dueFault("set 0 1-12345;", 1, 8);
        Check.dueFault("set 0 1,2;", 1, 7);
        Check.dueFault("set 0 1\t2;", 1, 7);
        Check.dueFault("set 0 1\r\n2;", 1, 7);
        Check.dueFault("set\u0000;", 1, 3);
        Check.dueFault("set 0 \u00ff;", 1, 6);
        Check.dueFault("set 0 \u00b5;", 1, 6);
        Check.dueFault("setA 0;", 1, 3);
        Check.dueFault("mark 0 1;", 1, 8);
        Check.dueFault("mark 0 1 2 3;", 1, 11);
        Check.dueFault("mark 0 1 -2;", 1, 9);
        Check.dueFault("mark 0 1-2;", 1, 8);
        Check.dueFault("cut 0 1;", 1, 7);
        Check.dueFault("cut 0 1 2 3;", 1, 10);
        Check.dueFault("join 0;", 1, 6);
        Check.dueFault("join 0 1 2;", 1, 9);
        Check.dueFault("melt 0", 1, 6);
        Check.dueFault("melt 0 1 2;", 1, 9);
        Check.dueFault("shift 0;", 1, 7);
        Check.dueFault("shift - 0 1;", 1, 6);
        Check.dueFault("shift 0 --1;", 1, 9);
        Check.dueFault("shift 0 -;", 1, 9);
        Check.dueFault("shift 0 1 2;", 1, 10);
        Check.dueFault("move 0 1 2;", 1, 10);
        Check.dueFault("move 0 1 2 3 4;", 1, 13);
        Check.dueFault("move 0 1-2 3;", 1, 8);
        Check.dueFault("set 0 1; mark 0 1 1", 1, 19);
        Check.dueFault("set 0 1 * ;", 1, 8);
    }

    private static void faultTwo() {
        Check.dueFault("set 8;", 2, 4);
        Check.dueFault("set 9999 1;", 2, 4);
        Check.dueFault("set 0 5-4;", 2, 8);
        Check.dueFault("set 0 9999 - 0;", 2, 13);
        Check.dueFault("mark 8 1 2;", 2, 5);
        Check.dueFault("cut 8 1 2;", 2, 4);
        Check.dueFault("cut 0 1 8;", 2, 8);
        Check.dueFault("join 8 0;", 2, 5);
        Check.dueFault("join 0 8;", 2, 7);
        Check.dueFault("melt 8 0;", 2, 5);
        Check.dueFault("melt 0 10;", 2, 7);
        Check.dueFault("shift 8 1;", 2, 6);
        Check.dueFault("move 8 1 2 3;", 2, 5);
        Check.dueFault("move 0 1 2 8;", 2, 11);
    }

    private static void faultThree() {
        Check.dueFault("set 0 0-60;", 3, 6);
        Check.dueFault("set 0 0-9999;", 3, 6);
        Check.dueFault("set 0 0-59 60;", 3, 11);
        Check.dueFault("set 0 0-59;set 0 3 60;", 3, 19);
        Check.dueFault("set 0 0-50 5-59 5 40-70;", 3, 18);
        String full = "set 0 0-59;set 1 0-59;set 2 0-59;set 3 0-59;";
        Check.dueFault(full + "set 4 0;", 3, full.length() + 6);
        Check.dueFault("set 0 0-59;set 1 0-59;set 2 0-59;set 3 1-59;set 4 7-8;", 3, 50);
    }

    private static void faultFour() {
        Check.dueFault("mark 0 1 2;", 4, 0);
        Check.dueFault("set 0 1; mark 0 2 3;", 4, 9);
        Check.dueFault("set 0 1;mark 0 1 1;mark 0 1 1;", 4, 19);
        Check.dueFault("set 0 1 5;mark 0 5 1;", 4, 10);
        Check.dueFault("set 0 1;cut 0 0 0;", 4, 8);
        Check.dueFault("set 0 1;cut 0 1 1;", 4, 8);
        Check.dueFault("set 0 1;set 1 2;cut 0 0 1;", 4, 16);
        Check.dueFault("set 0 1;join 0 0;", 4, 8);
        Check.dueFault("set 0 1;join 0 1;", 4, 8);
        Check.dueFault("set 0 5;set 1 5;join 0 1;", 4, 16);
        Check.dueFault("set 0 0-58;set 1 70-71;join 0 1;", 4, 23);
        Check.dueFault("melt 0 1;", 4, 0);
        Check.dueFault("set 0 1;melt 0 0;", 4, 8);
        Check.dueFault("set 0 0-58;set 1 70-71;melt 0 1;", 4, 23);
        Check.dueFault("shift 0 1;", 4, 0);
        Check.dueFault("set 0 1;shift 0 0;", 4, 8);
        Check.dueFault("set 0 1;shift 0 -2;", 4, 8);
        Check.dueFault("set 0 1;shift 0 9999;", 4, 8);
        Check.dueFault("set 0 1 9;move 0 1 9 0;", 4, 10);
        Check.dueFault("set 0 1 9;move 0 2 8 1;", 4, 10);
        Check.dueFault("set 0 1 9;set 1 5;move 0 1 9 1;", 4, 18);
        Check.dueFault("set 0 0-59;set 1 60;move 0 0 59 1;", 4, 20);
    }

    private static void firstFaultMet() {
        Check.dueFault("cut 0 0 0", 1, 9);
        Check.dueFault("cut 0 0 0$;", 1, 9);
        Check.dueFault("cut 0 0 0; $", 4, 0);
        Check.dueFault("cut 8 $", 2, 4);
        Check.dueFault("cut 8$", 2, 4);
        Check.dueFault("set 0 5-3$", 2, 8);
        Check.dueFault("set 0 0-60$", 3, 6);
        Check.dueFault("set 0 0-60-", 3, 6);
        Check.dueFault("set 0 0-59 60$", 3, 11);
        Check.dueFault("set 0 0-59 60 12345;", 3, 11);
        Check.dueFault("set 0 0-59 70-$;", 1, 14);
        Check.dueFault("set 0 0-59 70-60;", 2, 14);
        Check.dueFault("set 0 0-59 60 8-7;", 3, 11);
        Check.dueFault("cut 0 0 0; set 8;", 4, 0);
        Check.dueFault("cut 0 12345 9;", 1, 6);
    }
}
