import java.nio.charset.StandardCharsets;

/** What the tests share: answers compared with those that are due, and texts put on the tape. */
final class Check {
    private static int wrong = 0;
    private static int asked = 0;
    private static String about = "";

    private Check() {
    }

    /** What the next answers are about: it is told with each that is wrong. */
    static void about(String what) {
        about = what + ": ";
    }

    static void due(String what, long got, long want) {
        asked++;
        if (got != want) {
            wrong++;
            System.out.println(about + what + " answered " + got + ", due is " + want);
        }
    }

    static void due(String what, boolean got, boolean want) {
        due(what, got ? 1 : 0, want ? 1 : 0);
    }

    static void due(String what, String got, String want) {
        asked++;
        if (!got.equals(want)) {
            wrong++;
            System.out.println(about + what + " answered '" + got + "', due is '" + want + "'");
        }
    }

    /** Puts these bytes behind the tape, twenty by twenty, and cuts off what the last twenty have too many. */
    static int feed(MeltingHeaps x, byte[] bytes) {
        int before = x.count(5);
        for (int at = 0; at < bytes.length; at += 20) {
            int[] words = new int[5];
            for (int i = 0; i < 20; i++) {
                int value = at + i < bytes.length ? bytes[at + i] & 255 : 32;
                words[i / 4] = words[i / 4] << 8 | value;
            }
            if (x.feed(words[0], words[1], words[2], words[3], words[4]) == MeltingHeaps.NONE) {
                return MeltingHeaps.NONE;
            }
        }
        return x.end(before + bytes.length);
    }

    static int feed(MeltingHeaps x, String text) {
        return feed(x, text.getBytes(StandardCharsets.ISO_8859_1));
    }

    static int text(MeltingHeaps x, String text) {
        feed(x, text);
        return x.text();
    }

    /** A new object with what a text tells. */
    static MeltingHeaps with(String text) {
        MeltingHeaps x = new MeltingHeaps();
        if (text(x, text) == MeltingHeaps.NONE) {
            due("text " + text, x.fault(0), 0);
        }
        return x;
    }

    /** A LINE that puts n KEYS, from one on and so far apart, to a SET. */
    static String line(int set, int first, int apart, int n) {
        StringBuilder s = new StringBuilder("set ").append(set);
        for (int k = 0; k < n; k++) {
            s.append(' ').append(first + apart * k);
        }
        return s.append(';').toString();
    }

    /** What an object is, but for KEYS and marks one by one; asking for it changes nothing. */
    static String print(MeltingHeaps x) {
        StringBuilder s = new StringBuilder();
        for (int set = 0; set < 8; set++) {
            for (int what : new int[] {0, 10, 8, 3, 6}) {
                s.append(x.set(set, what)).append(' ');
            }
        }
        for (int what : new int[] {4, 5, 7}) {
            s.append(x.count(what)).append(' ');
        }
        return s.append(x.fault(0)).append(' ').append(x.fault(1)).toString();
    }

    static String told(MeltingHeaps x, int set) {
        int length = x.tell(set);
        StringBuilder s = new StringBuilder();
        for (int i = 0; i < length; i++) {
            s.append((char) x.octet(i));
        }
        return s.toString();
    }

    /** That a text has a FAULT of this kind at this place, and leaves all SETS as they were. */
    static void dueFault(String text, int fault, int place) {
        MeltingHeaps x = with("set 6 17;");
        x.put(5, 5);
        x.seek(6, 17);
        due("'" + text + "'", text(x, text), MeltingHeaps.NONE);
        due("'" + text + "' fault(0)", x.fault(0), fault);
        due("'" + text + "' fault(1)", x.fault(1), place);
        due("'" + text + "' count(5)", x.count(5), 0);
        due("'" + text + "' count(4)", x.count(4), 2);
        due("'" + text + "' count(0)", x.count(0), 2);
        due("'" + text + "' key(6, 0)", x.key(6, 0), 17);
        due("'" + text + "' set(6, 6)", x.set(6, 6), 17);
        due("'" + text + "' key(5, 0)", x.key(5, 0), 5);
    }

    static void end(String name) {
        System.out.println(name + ": " + asked + " answers, " + wrong + " not as due");
        if (wrong != 0) {
            System.exit(1);
        }
    }
}
