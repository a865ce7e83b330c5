/** Boundary cases of Terms 3: the tape, tokens, TEXTS, FAULTS and how a SET is TOLD; a method a sentence. */
public final class TermsThreeEdgesTest {
    private static final String FULL = "set 0 0-59;set 1 0-59;set 2 0-59;set 3 0-59;";

    public static void main(String[] args) {
        tape();
        tokensAsLongAsTheyGo();
        blanks();
        words();
        numbers();
        oneByteEach();
        noLines();
        setLine();
        markLine();
        cutLine();
        joinAndMeltLines();
        shiftLine();
        moveLine();
        lineByLine();
        oneByOne();
        places();
        firstThatIsMet();
        faultOne();
        longerRowOfDigits();
        noSet();
        secondBelowFirst();
        tooMany();
        refusedLine();
        told();
        toldInStretches();
        toldMarked();
        Sentences.dueAll("Terms 3");
        Check.end("TermsThreeEdgesTest");
    }

    private static void dueTold(String text, String... told) {
        MeltingHeaps x = Check.with(text);
        for (int set = 0; set < told.length; set++) {
            Check.due("'" + text + "', SET " + set, Check.told(x, set), told[set]);
        }
    }

    private static String blanks(int n) {
        return " ".repeat(n);
    }

    private static void tape() {
        Sentences.hold("Terms 3", "THE TAPE has at most 800 bytes.");
        MeltingHeaps x = new MeltingHeaps();
        String text = "set 0 1 2;";
        Check.due("800 bytes", Check.feed(x, blanks(800 - text.length()) + text), 800);
        Check.due("not one more", x.feed(0, 0, 0, 0, 0), -1);
        Check.due("a LINE at its end", x.text(), 2);
        Check.due("a FAULT at its end", Check.text(x, text + blanks(790 - 4) + "set "), -1);
        Check.due("fault(0)", x.fault(0), 1);
        Check.due("fault(1)", x.fault(1), 800);
        StringBuilder s = new StringBuilder();
        for (int k = 0; k < 50; k++) {
            s.append("set ").append(k % 8).append(" ").append(1000 + k).append("-").append(1000 + k).append(";");
        }
        Check.due("it is full", s.length(), 800);
        Check.due("it was taken, so it has room again", Check.text(x, s.toString()), 50);
    }

    private static void tokensAsLongAsTheyGo() {
        Sentences.hold("Terms 3", "TOKENS, as long as they go");
        dueTold("set 0 12;", "12");
        dueTold("set 0 1 2;", "1 2");
        Check.dueFault("setset 0;", 1, 0);
        Check.dueFault("se t 0;", 1, 0);
        dueTold("set0 5-7 9;mark0 5 5;", "5* 6 7 9");
        // a word and a NUMBER of which the first twenty bytes have one half and the next twenty the other
        dueTold(blanks(18) + "set 0 5;", "5");
        dueTold(blanks(12) + "set 0 1234;", "1234");
        MeltingHeaps x = new MeltingHeaps();
        Check.feed(x, "set 0 1234;");
        x.end(9);
        Check.due("what was cut off is not read", x.text(), -1);
        Check.due("fault(0)", x.fault(0), 1);
        Check.due("fault(1)", x.fault(1), 9);
        Check.feed(x, "set 0 5;9");
        x.end(8);
        Check.due("nor is it a LINE", x.text(), 1);
    }

    private static void blanks() {
        Sentences.hold("Terms 3", "blanks (32, 10) between");
        dueTold(" \n\n set \n 0 \n5\n-\n 7 \n ; \n", "5-7");
        dueTold("set\n0\n5\n6;", "5 6");
        for (char no : new char[] {0, 9, 11, 13, 31, 33, 160}) {
            Check.dueFault("set" + no + "0 5;", 1, 3);
        }
    }

    private static void words() {
        Sentences.hold("Terms 3", "words, letters a to z");
        for (String word : new String[] {"a", "z", "az", "sets", "se", "marks", "cuts", "joint", "melts", "shifts", "moves", "undo"}) {
            Check.dueFault(word + " 0 1;", 1, 0);
        }
        // each letter of a word counts, and one more at either end makes another word
        for (String word : new String[] {"set", "mark", "cut", "join", "melt", "shift", "move"}) {
            for (int i = 0; i < word.length(); i++) {
                Check.dueFault(word.substring(0, i) + "z" + word.substring(i + 1) + " 0 1;", 1, 0);
                Check.dueFault(word.substring(0, i) + word.substring(i + 1) + " 0 1;", 1, 0);
            }
            for (String letter : new String[] {"a", "z"}) {
                Check.dueFault(letter + word + " 0 1;", 1, 0);
                Check.dueFault(word + letter + " 0 1;", 1, 0);
            }
        }
        // the bytes right beside a and z, and capitals, are no letters
        Check.dueFault("set` 0 1;", 1, 3);
        Check.dueFault("set{ 0 1;", 1, 3);
        Check.dueFault("SET 0 1;", 1, 0);
        Check.dueFault("sEt 0 1;", 1, 0);
        Check.dueFault("setT 0 1;", 1, 3);
    }

    private static void numbers() {
        Sentences.hold("Terms 3", "NUMBERS, 1 to 4 digits");
        dueTold("set 0 0 9 10 99 100 999 1000 9999;", "0 9 10 99 100 999 1000 9999");
        dueTold("set 0 0000 0009 09;", "0 9");
        dueTold("set 0007 1;", "", "", "", "", "", "", "", "1");
        // the bytes right beside 0 and 9 are no digits
        Check.dueFault("set 0 1/;", 1, 7);
        Check.dueFault("set 0 1:;", 1, 7);
    }

    private static void oneByteEach() {
        Sentences.hold("Terms 3", "- ; one byte each.");
        Check.dueFault("set 0 1--2;", 1, 8);
        Check.dueFault("set 0 1;;", 1, 8);
        dueTold("set 0 1-2;set 1 3-3;", "1 2", "3");
        Check.dueFault("set 0 1,2;", 1, 7);
    }

    private static void noLines() {
        Sentences.hold("Terms 3", "A TEXT: {LINE ';'}");
        MeltingHeaps x = Check.with("set 0 1;");
        Check.due("no LINE", x.text(), 0);
        Check.due("all SETS are empty then", x.count(0), 0);
        Check.due("fault(0)", x.fault(0), 0);
        Check.due("blanks alone", Check.text(x, "\n  "), 0);
        Check.dueFault(";", 1, 0);
        Check.dueFault("set 0 1", 1, 7);
        Check.dueFault("set 0 1 set 1 2;", 1, 8);
        Check.dueFault("set 0 1;set 1 2", 1, 15);
    }

    private static void setLine() {
        Sentences.hold("Terms 3", "'set' N {N ['-' N]} (a SET; KEYS, or all from one to another one)");
        dueTold("set 0;", "");
        dueTold("set 7 0;", "", "", "", "", "", "", "", "0");
        dueTold("set 0 5-5;", "5");
        dueTold("set 0 5-6;", "5 6");
        dueTold("set 0 0-59;set 1 9940-9999;", "0-59", "9940-9999");
        dueTold("set 0 1 3-5 7;", "1 3-5 7");
        Check.dueFault("set;", 1, 3);
        Check.dueFault("set -;", 1, 4);
        Check.dueFault("set 0 -;", 1, 6);
        Check.dueFault("set 0 -5;", 1, 6);
        Check.dueFault("set 0-5;", 1, 5);
        Check.dueFault("set 0 1-;", 1, 8);
        Check.dueFault("set 0 1-2-3;", 1, 9);
        Check.dueFault("set 0 1- set;", 1, 9);
    }

    private static void markLine() {
        Sentences.hold("Terms 3", "'mark' N N N");
        dueTold("set 0 0-4;mark 0 0 0;", "0* 1-4");
        dueTold("set 0 0-4;mark 0 1 3;", "0 1-3* 4");
        dueTold("set 0 0 9999;mark 0 0 9999;", "0* 9999*");
        Check.dueFault("mark;", 1, 4);
        Check.dueFault("mark 0;", 1, 6);
        Check.dueFault("mark 0 1;", 1, 8);
        Check.dueFault("mark 0 1 2 3;", 1, 11);
        Check.dueFault("mark 0 1-2;", 1, 8);
    }

    private static void cutLine() {
        Sentences.hold("Terms 3", "'cut' N N N (of, above, to)");
        dueTold("set 1 0-4;cut 1 2 0;", "3 4", "0-2");
        dueTold("set 1 0-4;cut 1 0 0;", "1-4", "0");
        Check.dueFault("cut;", 1, 3);
        Check.dueFault("cut 0;", 1, 5);
        Check.dueFault("cut 0 1;", 1, 7);
        Check.dueFault("cut 0 1 2 3;", 1, 10);
    }

    private static void joinAndMeltLines() {
        Sentences.hold("Terms 3", "'join' N N (to, of) | 'melt' N N (to, of)");
        dueTold("set 1 1;set 0 2;join 1 0;", "", "1 2");
        dueTold("set 1 2;set 0 1-3;melt 1 0;", "", "1-3");
        dueTold("set 1 2;mark 1 2 2;set 0 2;melt 0 1;", "2*", "");
        for (String word : new String[] {"join", "melt"}) {
            Check.dueFault(word + ";", 1, 4);
            Check.dueFault(word + " 0;", 1, 6);
            Check.dueFault(word + " 0 1 2;", 1, 9);
        }
    }

    private static void shiftLine() {
        Sentences.hold("Terms 3", "'shift' N ['-'] N");
        dueTold("set 0 0;shift 0 9999;", "9999");
        dueTold("set 0 9999;shift 0 -9999;", "0");
        // the second NUMBER may be below the first: that - is no 'to'
        dueTold("set 5 9;shift 5-1;", "", "", "", "", "", "8");
        dueTold("set 0 9;shift 0 - \n 1;", "8");
        Check.dueFault("shift;", 1, 5);
        Check.dueFault("shift 0;", 1, 7);
        Check.dueFault("shift 0 -;", 1, 9);
        Check.dueFault("shift 0 --1;", 1, 9);
        Check.dueFault("shift 0 1-;", 1, 9);
        Check.dueFault("shift -0 1;", 1, 6);
        Check.dueFault("shift 0 1 2;", 1, 10);
    }

    private static void moveLine() {
        Sentences.hold("Terms 3", "'move' N N N N (of, from, to, to that SET).");
        dueTold("set 1 1-5;move 1 2 4 0;", "2-4", "1 5");
        dueTold("set 1 0 9999;move 1 0 9999 0;", "0 9999", "");
        dueTold("set 1 1-5;move 1 3 3 0;", "3", "1 2 4 5");
        Check.dueFault("move;", 1, 4);
        Check.dueFault("move 0 1;", 1, 8);
        Check.dueFault("move 0 1 2;", 1, 10);
        Check.dueFault("move 0 1 2 3 4;", 1, 13);
        Check.dueFault("move 0 1-2 3;", 1, 8);
    }

    private static void lineByLine() {
        Sentences.hold("Terms 3", "It is done LINE by LINE on empty SETS");
        MeltingHeaps x = Check.with("set 0 1-9;set 5 50;");
        x.seek(0, 5);
        x.mark(0, 1, 9, false);
        Check.due("what was before is gone", Check.text(x, "set 0 3-5;cut 0 3 5;"), 3);
        Check.due("told", Check.told(x, 0) + "|" + Check.told(x, 5), "3|4 5");
        Check.due("no FINGER", x.set(0, 6), -1);
        Check.due("a full one may be told anew", Check.text(x, FULL), 240);
        Check.due("and once more", Check.text(x, FULL), 240);
        Check.due("a LINE finds what the one before did", Check.text(x, "set 0 1;join 1 0;join 2 1;shift 2 5;"), 1);
        Check.due("told", Check.told(x, 2), "6");
    }

    private static void oneByOne() {
        Sentences.hold("Terms 3", "'set' PUTS KEYS one by one (such as are there already are of no matter).");
        dueTold("set 0 5 5 4-6 5;", "4-6");
        dueTold("set 0 0-59 0-59 59;set 0 0;", "0-59");
        dueTold(FULL + "set 0 0-59;set 3 5;", "0-59", "0-59", "0-59", "0-59");
        // a KEY that is there stays as it is MARKED
        dueTold("set 0 5;mark 0 5 5;set 0 4-6;", "4 5* 6");
    }

    private static void places() {
        Sentences.hold("Terms 3", "FAULTS, with places (a token's first byte; the end's)");
        Check.dueFault("  wrong", 1, 2);
        Check.dueFault("\n\n12345", 1, 2);
        Check.dueFault("set 0 \n  9999 $", 1, 14);
        Check.dueFault("set 0 5", 1, 7);
        // blanks at the end are of the tape: its end is behind them
        Check.dueFault("set 0 5 \n ", 1, 10);
        Check.dueFault("set", 1, 3);
        Check.dueFault(blanks(19) + "$", 1, 19);
        Check.dueFault(blanks(20) + "$", 1, 20);
        Check.dueFault(blanks(799) + "$", 1, 799);
        Check.dueFault(blanks(797) + "set", 1, 800);
    }

    private static void firstThatIsMet() {
        Sentences.hold("Terms 3", "the first that is met");
        Check.dueFault("set 8 $", 2, 4);
        Check.dueFault("set 8$", 2, 4);
        Check.dueFault("$ set 8;", 1, 0);
        Check.dueFault("set 0 5-4 $", 2, 8);
        Check.dueFault("set 0 0-60;set 8;", 3, 6);
        Check.dueFault("set 0 0-60 5-4;", 3, 6);
        Check.dueFault("set 0 5-4 0-60;", 2, 8);
        Check.dueFault("join 0 1;set 8;", 4, 0);
        // a LINE is REFUSED behind its ';' alone
        Check.dueFault("join 0 1", 1, 8);
        Check.dueFault("join 0 1 $;", 1, 9);
        Check.dueFault("join 0 0 set 8;", 1, 9);
        Check.dueFault("join 0 8;", 2, 7);
        Check.dueFault("join 8 9;", 2, 5);
        Check.dueFault("set 0 5;mark 0 6 7;join 0 1;", 4, 8);
    }

    private static void faultOne() {
        Sentences.hold("Terms 3", "1 the first byte or token with which no text goes on");
        for (int value = 0; value < 256; value++) {
            boolean blank = value == 32 || value == 10;
            boolean digit = value >= '0' && value <= '9';
            if (!blank && !digit && value != '-' && value != ';') {
                Check.dueFault("set 0 5" + (char) value, 1, 7);
            }
            boolean letter = value >= 'a' && value <= 'z';
            if (!blank && !letter) {
                Check.dueFault("" + (char) value, 1, 0);
            }
        }
    }

    private static void longerRowOfDigits() {
        Sentences.hold("Terms 3", "(a longer row of digits is no token)");
        Check.dueFault("set 0 10000;", 1, 6);
        Check.dueFault("set 0 00005;", 1, 6);
        Check.dueFault("set 00000 5;", 1, 4);
        Check.dueFault("set 0 1-00002;", 1, 8);
        Check.dueFault("mark 0 00000 5;", 1, 7);
        Check.dueFault("shift 0 -10000;", 1, 9);
        Check.dueFault("set 0 " + "0".repeat(700) + ";", 1, 6);
        // 2 to 32, and 5 more: such a row must not wrap around
        Check.dueFault("set 0 4294967301;", 1, 6);
        Check.dueFault("set 0 99990;", 1, 6);
    }

    private static void noSet() {
        Sentences.hold("Terms 3", "2 a NUMBER that can't be a SET (at it)");
        for (String number : new String[] {"8", "9", "10", "0008", "9999"}) {
            Check.dueFault("set " + number + ";", 2, 4);
            Check.dueFault("mark " + number + " 0 1;", 2, 5);
            Check.dueFault("cut " + number + " 1 0;", 2, 4);
            Check.dueFault("cut 0 1 " + number + ";", 2, 8);
            Check.dueFault("join " + number + " 1;", 2, 5);
            Check.dueFault("join 0 " + number + ";", 2, 7);
            Check.dueFault("melt " + number + " 1;", 2, 5);
            Check.dueFault("melt 0 " + number + ";", 2, 7);
            Check.dueFault("shift " + number + " 1;", 2, 6);
            Check.dueFault("move " + number + " 1 2 3;", 2, 5);
            Check.dueFault("move 0 1 2 " + number + ";", 2, 11);
        }
        dueTold("set 7 9;cut 7 8 6;join 5 6;melt 4 5;mark 4 0 9;shift 4 9;move 4 8 18 7;", "", "", "", "", "", "", "", "18*");
    }

    private static void secondBelowFirst() {
        Sentences.hold("Terms 3", "the second one of a '-' that is below the first (at it)");
        Check.dueFault("set 0 5-4;", 2, 8);
        Check.dueFault("set 0 1-0;", 2, 8);
        Check.dueFault("set 0 9999-\n 0;", 2, 13);
        Check.dueFault("set 0 10-9;", 2, 9);
        Check.dueFault("set 0 5-0004;", 2, 8);
        dueTold("set 0 4-4 9-10 9999-9999;", "4 9 10 9999");
        // of 'mark' and 'move' it is no FAULT of this kind: nothing is to be done
        Check.dueFault("set 0 1-9;mark 0 5 4;", 4, 10);
        Check.dueFault("set 0 1-9;move 0 5 4 1;", 4, 10);
    }

    private static void tooMany() {
        Sentences.hold("Terms 3", "3 a KEY by 'set' by which there would be too many (at its NUMBER, that of the first one of a '-')");
        Check.dueFault("set 0 0-59 60;", 3, 11);
        Check.dueFault("set 0 0-59;set 0 5 61;", 3, 19);
        Check.dueFault("set 0 0-60;", 3, 6);
        Check.dueFault("set 0 0-9999;", 3, 6);
        Check.dueFault("set 0 100 0 - 59;", 3, 10);
        Check.dueFault("set 0 0-59 59-60;", 3, 11);
        Check.dueFault(FULL + "set 4 0;", 3, FULL.length() + 6);
        Check.dueFault(FULL + "set 4 0-5;", 3, FULL.length() + 6);
        Check.dueFault(FULL + "set 0 0-59 60;", 3, FULL.length() + 11);
        dueTold(FULL + "melt 0 3;set 4 0-59;", "0-59", "0-59", "0-59", "", "0-59");
        Check.dueFault("set 0 0-59;set 1 0-59;set 2 0-59;set 3 0-58;set 4 0 1;", 3, 52);
    }

    private static void refusedLine() {
        Sentences.hold("Terms 3", "4 another LINE that is REFUSED (at its word, behind its ';').");
        // reason 1: one SET twice
        Check.dueFault("set 0 1; cut 0 0 0;", 4, 9);
        Check.dueFault("set 0 1; join 0 0;", 4, 9);
        Check.dueFault("set 0 1; melt 0 0;", 4, 9);
        Check.dueFault("set 0 1; move 0 0 9 0;", 4, 9);
        // reason 2: nothing is to be done
        Check.dueFault("mark 0 0 9999;", 4, 0);
        Check.dueFault("set 0 1;mark 0 1 1;\nmark 0 1 1;", 4, 20);
        Check.dueFault("set 0 1;cut 0 1 1;", 4, 8);
        Check.dueFault("join 0 1;", 4, 0);
        Check.dueFault("melt 0 1;", 4, 0);
        Check.dueFault("shift 0 1;", 4, 0);
        Check.dueFault("set 0 1;shift 0 0;", 4, 8);
        Check.dueFault("set 0 1;shift 0 -0;", 4, 8);
        Check.dueFault("set 0 1;move 0 2 9 1;", 4, 8);
        // reason 3: it can't be
        Check.dueFault("set 0 1;set 1 5;cut 0 0 1;", 4, 16);
        Check.dueFault("set 0 5;set 1 5;join 0 1;", 4, 16);
        Check.dueFault("set 0 1 9;set 1 9;move 0 0 9 1;", 4, 18);
        Check.dueFault("set 0 1;shift 0 -2;", 4, 8);
        Check.dueFault("set 0 1;shift 0 9999;", 4, 8);
        // reason 4: too many
        Check.dueFault("set 0 0-59;set 1 60;join 0 1;", 4, 20);
        Check.dueFault("set 0 0-59;set 1 60;melt 0 1;", 4, 20);
        Check.dueFault("set 0 0-59;set 1 60;move 1 60 60 0;", 4, 20);
    }

    private static void told() {
        Sentences.hold("Terms 3", "TOLD is a SET: its KEYS in order, a blank between");
        dueTold("", "");
        dueTold("set 0 0;", "0");
        dueTold("set 0 9999 0;", "0 9999");
        dueTold("set 0 1000 100 10 9;", "9 10 100 1000");
        String sixty = Check.line(0, 1000, 150, 60);
        dueTold(sixty, sixty.substring(6, sixty.length() - 1));
    }

    private static void toldInStretches() {
        Sentences.hold("Terms 3", "of three or more that follow one another by 1 and are alike MARKED the first one, - and the last one");
        dueTold("set 0 1 2;", "1 2");
        dueTold("set 0 1 2 3;", "1-3");
        dueTold("set 0 1 2 4 5 7 8 9;", "1 2 4 5 7-9");
        dueTold("set 0 1 3 5;", "1 3 5");
        dueTold("set 0 0-59;", "0-59");
        dueTold("set 0 9997-9999 0-2;", "0-2 9997-9999");
        dueTold("set 0 1-6;mark 0 1 2;", "1* 2* 3-6");
        dueTold("set 0 1-6;mark 0 3 4;", "1 2 3* 4* 5 6");
        dueTold("set 0 1-6;mark 0 4 6;", "1-3 4-6*");
        dueTold("set 0 1-6;mark 0 2 2;mark 0 4 4;mark 0 6 6;", "1 2* 3 4* 5 6*");
    }

    private static void toldMarked() {
        Sentences.hold("Terms 3", "behind one that is MARKED (behind the last of such) a *.");
        dueTold("set 0 0;mark 0 0 0;", "0*");
        dueTold("set 0 5 6;mark 0 5 6;", "5* 6*");
        dueTold("set 0 5-7;mark 0 5 7;", "5-7*");
        dueTold("set 0 0-59;mark 0 0 59;", "0-59*");
        dueTold("set 0 9998 9999;mark 0 9999 9999;", "9998 9999*");
        String sixty = Check.line(0, 1000, 150, 60);
        String all = sixty.substring(6, sixty.length() - 1).replace(" ", "* ") + "*";
        MeltingHeaps x = Check.with(sixty + "mark 0 0 9999;");
        Check.due("the longest of all", x.tell(0), 60 * 6 - 1);
        Check.due("the longest of all", Check.told(x, 0), all);
    }
}
