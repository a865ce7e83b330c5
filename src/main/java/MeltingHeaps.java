/**
 * Eight SETS of numbered KEYS that are moved in bulk. The words in capitals are those of the document.
 *
 * <p>Every row is made with the object and used again by each call, so that no call makes anything anew.
 */
public final class MeltingHeaps {
    public static final int NONE = -1;

    private static final int SETS = 8;
    private static final int LAST_SET = 7;
    private static final int ROOM = 60;
    private static final int ROOM_IN_ALL = 240;
    private static final int LAST_KEY = 9999;
    private static final int TAPE_ROOM = 800;
    /** A SET is longest when TOLD as 60 KEYS of four digits, each with a * and a blank. */
    private static final int TOLD_ROOM = 360;
    private static final int UNDOABLE = 12;
    private static final int IMAGES = 3;

    /** The reasons for which an ACT is REFUSED, as they are answered. */
    private static final int NO_SUCH = -1;
    private static final int NOTHING_TO_DO = -2;
    private static final int CAN_NOT_BE = -3;
    private static final int TOO_MANY = -4;

    private static final int BLANK = 32;
    private static final int LINE_FEED = 10;
    private static final int STAR = 42;
    private static final int DASH = 45;
    private static final int SEMICOLON = 59;

    private final Store store;
    private final Past past;
    private final Row tape;
    private final Row told;
    private final Script script;
    private final Snapshot beforeText;
    private final Image[] images;
    private int faultKind;
    private int faultPlace;

    public MeltingHeaps() {
        store = new Store();
        past = new Past();
        tape = new Row(new byte[TAPE_ROOM]);
        told = new Row(new byte[TOLD_ROOM]);
        script = new Script(tape, store);
        beforeText = new Snapshot();
        images = new Image[IMAGES];
        for (int k = 0; k < IMAGES; k++) {
            images[k] = new Image();
        }
        faultKind = 0;
        faultPlace = NONE;
    }

    public int feed(int a, int b, int c, int d, int e) {
        if (tape.length > TAPE_ROOM - 20) {
            return NONE;
        }
        tape.addFour(a);
        tape.addFour(b);
        tape.addFour(c);
        tape.addFour(d);
        tape.addFour(e);
        return tape.length;
    }

    public int end(int n) {
        if (n < 0 || n > tape.length) {
            return NONE;
        }
        tape.length = n;
        return n;
    }

    public int text() {
        beforeText.take(store);
        store.empty();
        script.perform();
        tape.length = 0;
        faultKind = script.faultKind;
        faultPlace = script.faultPlace;
        if (faultKind != 0) {
            beforeText.give(store);
            return NONE;
        }
        past.forget();
        return store.total();
    }

    public int fault(int what) {
        switch (what) {
            case 0: return faultKind;
            case 1: return faultPlace;
            default: return NONE;
        }
    }

    public int put(int set, int key) {
        past.prepare(store);
        return past.settle(store.putKey(set, key));
    }

    public int drop(int set, int key) {
        past.prepare(store);
        return past.settle(store.dropKey(set, key));
    }

    public int cut(int set, int above, int to) {
        past.prepare(store);
        return past.settle(store.cutAbove(set, above, to));
    }

    public int join(int to, int of) {
        past.prepare(store);
        return past.settle(store.joinTo(to, of));
    }

    public int melt(int to, int of) {
        past.prepare(store);
        return past.settle(store.meltTo(to, of));
    }

    public int shift(int set, int by) {
        past.prepare(store);
        return past.settle(store.shiftBy(set, by));
    }

    public int move(int set, int from, int last, int to) {
        past.prepare(store);
        return past.settle(store.moveStretch(set, from, last, to));
    }

    public int mark(int set, int from, int last, boolean not) {
        past.prepare(store);
        return past.settle(store.markStretch(set, from, last, !not));
    }

    public int seek(int set, int number) {
        past.prepare(store);
        return past.settle(store.seekFrom(set, number));
    }

    public int undo() {
        if (past.held == 0) {
            return NONE;
        }
        past.stepBack(store);
        return past.held;
    }

    public int set(int set, int what) {
        Heap heap = store.heapAt(set);
        if (heap == null) {
            return NONE;
        }
        switch (what) {
            case 0: return heap.size;
            case 1: return heap.keyAt(0);
            case 2: return heap.keyAt(heap.size - 1);
            case 3: return heap.markedBetween(0, LAST_KEY);
            case 4: return store.treeOf(heap).rootKey();
            case 5: return store.treeOf(heap).high();
            case 6: return heap.finger;
            case 7: return heap.leastDifference();
            case 8: return store.treeOf(heap).allDepths();
            case 9: return heap.stretches();
            case 10: return heap.sum();
            default: return NONE;
        }
    }

    public int key(int set, int k) {
        Heap heap = store.heapAt(set);
        return heap == null ? NONE : heap.keyAt(k);
    }

    public int of(int set, int key, int what) {
        Heap heap = store.heapAt(set);
        int rank = heap == null ? NONE : heap.rankOf(key);
        if (heap == null || rank == NONE) {
            return NONE;
        }
        switch (what) {
            case 0: return rank;
            case 1: return heap.markAt(rank);
            case 2: return store.treeOf(heap).depthAt(rank);
            case 3: return store.treeOf(heap).keyAbove(rank);
            case 4: return store.treeOf(heap).keyAtLeft(rank);
            case 5: return store.treeOf(heap).keyAtRight(rank);
            case 6: return priority(key);
            case 7: return store.treeOf(heap).howManyBelow(rank);
            default: return NONE;
        }
    }

    public int within(int set, int from, int last, boolean marked) {
        Heap heap = store.heapAt(set);
        if (heap == null) {
            return NONE;
        }
        return marked ? heap.markedBetween(from, last) : heap.howManyBetween(from, last);
    }

    public int far(int set, int one, int other) {
        Heap heap = store.heapAt(set);
        return heap == null ? NONE : store.treeOf(heap).steps(heap.rankOf(one), heap.rankOf(other));
    }

    public int where(int key) {
        int bits = 0;
        for (int set = 0; set < SETS; set++) {
            if (store.heaps[set].rankOf(key) != NONE) {
                bits |= 1 << set;
            }
        }
        return bits;
    }

    public int count(int what) {
        switch (what) {
            case 0: return store.total();
            case 1: return store.notEmpty();
            case 2: return store.unlike();
            case 3: return store.allMarked();
            case 4: return past.held;
            case 5: return tape.length;
            case 6: return store.huffman();
            case 7: return told.length;
            default: return NONE;
        }
    }

    public int pair(int one, int other, int what) {
        Heap first = store.heapAt(one);
        Heap second = store.heapAt(other);
        if (first == null || second == null || one == other) {
            return NONE;
        }
        Weave weave = store.weaveOf(first, second);
        switch (what) {
            case 0: return weave.runs;
            case 1: return weave.twins;
            case 2: return weave.cost;
            case 3: return weave.keys - weave.twins;
            case 4: return weave.longest;
            case 5: return store.whyNotJoin(first, second) == 0 ? 1 : 0;
            case 6: return store.whyNotMelt(second, weave) == 0 ? 1 : 0;
            default: return NONE;
        }
    }

    public int cheapest(int what) {
        store.findCheapest();
        switch (what) {
            case 0: return store.cheapestOne;
            case 1: return store.cheapestOther;
            case 2: return store.cheapestCost;
            default: return NONE;
        }
    }

    public int merged(int k) {
        if (k < 0 || k >= store.total()) {
            return NONE;
        }
        store.parade.begin();
        int key = NONE;
        for (int passed = 0; passed <= k; passed++) {
            key = store.parade.next();
        }
        return key;
    }

    public int would(int set, int key, boolean gone) {
        Heap heap = store.heapAt(set);
        if (heap == null || !isKey(key)) {
            return NONE;
        }
        boolean there = heap.rankOf(key) != NONE;
        if (there != gone) {
            return NONE;
        }
        store.tree.grow(heap, gone ? NONE : key, gone ? key : NONE);
        return store.tree.high();
    }

    public int halves(int set) {
        Heap heap = store.heapAt(set);
        if (heap == null || heap.size < 2) {
            return NONE;
        }
        return heap.keyAt((heap.size + 1) / 2 - 1);
    }

    public int tell(int set) {
        Heap heap = store.heapAt(set);
        if (heap == null) {
            return NONE;
        }
        told.length = 0;
        int rank = 0;
        while (rank < heap.size) {
            int last = heap.lastToldWith(rank);
            if (rank > 0) {
                told.add(BLANK);
            }
            told.addNumber(heap.keyAt(rank));
            if (last > rank) {
                told.add(DASH);
                told.addNumber(heap.keyAt(last));
            }
            if (heap.markAt(rank) == 1) {
                told.add(STAR);
            }
            rank = Math.max(rank, last) + 1;
        }
        return told.length;
    }

    public int octet(int i) {
        return told.byteAt(i);
    }

    public boolean image(int k) {
        if (k < 0 || k >= IMAGES) {
            return false;
        }
        Image image = images[k];
        image.taken = true;
        image.heaps.take(store);
        image.tape.copy(tape);
        image.told.copy(told);
        image.faultKind = faultKind;
        image.faultPlace = faultPlace;
        return true;
    }

    public boolean again(int k) {
        if (k < 0 || k >= IMAGES || !images[k].taken) {
            return false;
        }
        Image image = images[k];
        image.heaps.give(store);
        tape.copy(image.tape);
        told.copy(image.told);
        faultKind = image.faultKind;
        faultPlace = image.faultPlace;
        past.forget();
        return true;
    }

    private static boolean isKey(int number) {
        return number >= 0 && number <= LAST_KEY;
    }

    private static int priority(int key) {
        return (key * 40503 + 9973) & 65535;
    }

    /** Bytes, and how many of them count. */
    private static final class Row {
        private final byte[] bytes;
        private int length;

        Row(byte[] room) {
            bytes = room;
            length = 0;
        }

        int byteAt(int i) {
            return i >= 0 && i < length && i < bytes.length ? bytes[i] & 255 : NONE;
        }

        void add(int value) {
            if (length >= 0 && length < bytes.length) {
                bytes[length] = (byte) value;
                length++;
            }
        }

        void addFour(int value) {
            add(value >>> 24);
            add(value >>> 16);
            add(value >>> 8);
            add(value);
        }

        /** Adds a KEY's digits. */
        void addNumber(int key) {
            boolean begun = false;
            for (int unit = 1000; unit > 0; unit /= 10) {
                int digit = key / unit % 10;
                begun = begun || digit > 0 || unit == 1;
                if (begun) {
                    add('0' + digit);
                }
            }
        }

        void copy(Row other) {
            length = Math.min(other.length, bytes.length);
            System.arraycopy(other.bytes, 0, bytes, 0, length);
        }
    }

    /** One SET. An entry is twice the KEY, and 1 if it is MARKED, so that entries in order are KEYS in order. */
    private static final class Heap {
        private final int[] entries = new int[ROOM];
        private int size = 0;
        private int finger = NONE;

        void empty() {
            size = 0;
            finger = NONE;
        }

        int keyAt(int rank) {
            return rank >= 0 && rank < size ? entries[rank] >> 1 : NONE;
        }

        int markAt(int rank) {
            return rank >= 0 && rank < size ? entries[rank] & 1 : 0;
        }

        /** How many KEYS are below a number. */
        int below(int number) {
            int rank = 0;
            while (rank < size && entries[rank] >> 1 < number) {
                rank++;
            }
            return rank;
        }

        /** How many KEYS are not above a number. */
        int notAbove(int number) {
            int rank = 0;
            while (rank < size && entries[rank] >> 1 <= number) {
                rank++;
            }
            return rank;
        }

        int rankOf(int key) {
            int rank = below(key);
            return rank < size && entries[rank] >> 1 == key ? rank : NONE;
        }

        int howManyBetween(int from, int last) {
            return Math.max(0, notAbove(last) - below(from));
        }

        int markedBetween(int from, int last) {
            int end = notAbove(last);
            int marked = 0;
            for (int rank = below(from); rank < end; rank++) {
                marked += markAt(rank);
            }
            return marked;
        }

        int leastDifference() {
            int least = NONE;
            for (int rank = 1; rank < size; rank++) {
                int difference = keyAt(rank) - keyAt(rank - 1);
                least = least == NONE ? difference : Math.min(least, difference);
            }
            return least;
        }

        int stretches() {
            int stretches = 0;
            for (int rank = 0; rank < size; rank++) {
                if (rank == 0 || keyAt(rank) - keyAt(rank - 1) > 1) {
                    stretches++;
                }
            }
            return stretches;
        }

        int sum() {
            int sum = 0;
            for (int rank = 0; rank < size; rank++) {
                sum += keyAt(rank);
            }
            return sum;
        }

        /** The last RANK of three KEYS or more that are TOLD as one from this one on; of fewer this one itself. */
        int lastToldWith(int rank) {
            int last = Math.max(rank, 0);
            // entries two apart are KEYS one apart that are alike MARKED
            while (last + 1 < size && entries[last + 1] - entries[last] == 2) {
                last++;
            }
            return last - rank < 2 ? rank : last;
        }

        /** Makes room for n entries at a RANK; false, and nothing is done, if there is not so much. */
        boolean openGap(int rank, int n) {
            if (rank < 0 || rank > size || n < 0 || n > ROOM - size) {
                return false;
            }
            System.arraycopy(entries, rank, entries, rank + n, size - rank);
            size += n;
            finger = NONE;
            return true;
        }

        void closeGap(int rank, int n) {
            if (rank >= 0 && n >= 0 && n <= size - rank) {
                System.arraycopy(entries, rank + n, entries, rank, size - rank - n);
                size -= n;
                finger = NONE;
            }
        }

        /** A new KEY comes, not MARKED: its RANK. */
        int insert(int key) {
            int rank = below(key);
            if (openGap(rank, 1)) {
                entries[rank] = key * 2;
            }
            return rank;
        }

        /** n KEYS from a RANK on go to another SET that has none among them. */
        void giveStretch(int rank, int n, Heap other) {
            if (rank < 0 || n < 1 || n > size - rank) {
                return;
            }
            int at = other.below(entries[rank] >> 1);
            if (other.openGap(at, n)) {
                System.arraycopy(entries, rank, other.entries, at, n);
                closeGap(rank, n);
            }
        }

        /** All KEYS of another SET come; both together have so many unlike ones. */
        void absorb(Heap other, int unlike) {
            int mine = size - 1;
            int its = other.size - 1;
            // from the greatest down, so that no entry is written over before it has been taken
            for (int to = Math.min(unlike, ROOM) - 1; to >= 0; to--) {
                int compared = Integer.compare(keyAt(mine), other.keyAt(its));
                int entry = 0;
                if (compared >= 0 && mine >= 0) {
                    entry = entries[mine];
                    mine--;
                }
                if (compared <= 0 && its >= 0) {
                    entry |= other.entries[its];
                    its--;
                }
                entries[to] = entry;
            }
            // TWINS were there already: of them alone this SET gets no KEY, and its FINGER stays
            if (unlike != size) {
                finger = NONE;
            }
            size = Math.min(unlike, ROOM);
            other.empty();
        }

        void shiftAll(int by) {
            for (int rank = 0; rank < size; rank++) {
                entries[rank] += by * 2;
            }
            if (finger != NONE) {
                finger += by;
            }
        }

        /** Marks KEYS, or takes their marks off: how many of them change by that. */
        int markBetween(int from, int last, int as) {
            int end = notAbove(last);
            int changed = 0;
            for (int rank = below(from); rank < end; rank++) {
                if ((entries[rank] & 1) != as) {
                    entries[rank] ^= 1;
                    changed++;
                }
            }
            return changed;
        }
    }

    /** THE TREE of a SET's KEYS, each by its RANK. */
    private static final class Tree {
        /** One more than a SET has, for a KEY that would come to a full one. */
        private static final int NODES = ROOM + 1;

        private final int[] keys = new int[NODES];
        private final int[] above = new int[NODES];
        private final int[] left = new int[NODES];
        private final int[] right = new int[NODES];
        private final int[] depth = new int[NODES];
        private final int[] under = new int[NODES];
        private final int[] way = new int[NODES];
        private int size = 0;
        private int root = NONE;

        /** The tree of a SET, were one KEY there, too, and another one gone (NONE: no such one). */
        void grow(Heap heap, int more, int gone) {
            size = 0;
            boolean waiting = more != NONE;
            for (int rank = 0; rank < heap.size; rank++) {
                int key = heap.keyAt(rank);
                if (waiting && more < key) {
                    addKey(more);
                    waiting = false;
                }
                if (key != gone) {
                    addKey(key);
                }
            }
            if (waiting) {
                addKey(more);
            }
            link();
            climb();
        }

        private void addKey(int key) {
            if (size >= 0 && size < NODES) {
                keys[size] = key;
                size++;
            }
        }

        /** Hangs KEY after KEY at the right edge: those of the edge that it is ahead of come to its left. */
        private void link() {
            int onWay = 0;
            for (int node = 0; node < size; node++) {
                int beaten = NONE;
                while (onWay > 0 && priority(keys[way[onWay - 1]]) < priority(keys[node])) {
                    onWay--;
                    beaten = way[onWay];
                }
                left[node] = beaten;
                right[node] = NONE;
                above[node] = onWay > 0 ? way[onWay - 1] : NONE;
                if (beaten != NONE) {
                    above[beaten] = node;
                }
                if (onWay > 0) {
                    right[way[onWay - 1]] = node;
                }
                way[onWay] = node;
                onWay++;
            }
            root = size > 0 ? way[0] : NONE;
        }

        /** Counts along each node's way to the ROOT. */
        private void climb() {
            for (int node = 0; node < size; node++) {
                depth[node] = 0;
                under[node] = 0;
            }
            for (int node = 0; node < size; node++) {
                int up = above[node];
                for (int steps = 0; steps < size && up != NONE; steps++) {
                    depth[node]++;
                    under[up]++;
                    up = above[up];
                }
            }
        }

        private boolean isNode(int node) {
            return node >= 0 && node < size;
        }

        private int keyOf(int node) {
            return isNode(node) ? keys[node] : NONE;
        }

        int rootKey() {
            return keyOf(root);
        }

        int depthAt(int node) {
            return isNode(node) ? depth[node] : NONE;
        }

        int keyAbove(int node) {
            return isNode(node) ? keyOf(above[node]) : NONE;
        }

        int keyAtLeft(int node) {
            return isNode(node) ? keyOf(left[node]) : NONE;
        }

        int keyAtRight(int node) {
            return isNode(node) ? keyOf(right[node]) : NONE;
        }

        int howManyBelow(int node) {
            return isNode(node) ? under[node] : NONE;
        }

        int high() {
            int high = 0;
            for (int node = 0; node < size; node++) {
                high = Math.max(high, depth[node] + 1);
            }
            return high;
        }

        int allDepths() {
            int sum = 0;
            for (int node = 0; node < size; node++) {
                sum += depth[node];
            }
            return sum;
        }

        /** How FAR two nodes are; NONE if there are none such. */
        int steps(int one, int other) {
            if (!isNode(one) || !isNode(other)) {
                return NONE;
            }
            // where their ways meet is the node of least DEPTH among all between them
            int meeting = depth[one];
            int last = Math.max(one, other);
            for (int node = Math.min(one, other); node <= last; node++) {
                meeting = Math.min(meeting, depth[node]);
            }
            return depth[one] + depth[other] - 2 * meeting;
        }
    }

    /** The RUNS of two SETS. */
    private static final class Weave {
        private int runs;
        private int twins;
        private int cost;
        private int longest;
        /** Unlike KEYS that both have together. */
        private int keys;

        void weave(Heap one, Heap other) {
            runs = 0;
            twins = 0;
            cost = 0;
            longest = 0;
            keys = 0;
            int i = 0;
            int j = 0;
            int run = 0;
            boolean ofOne = true;
            int left = one.size + other.size;
            while (left > 0) {
                int compared = i >= one.size ? 1 : j >= other.size ? -1 : Integer.compare(one.keyAt(i), other.keyAt(j));
                if (ofOne != (compared <= 0)) {
                    endRun(run);
                    run = 0;
                    ofOne = compared <= 0;
                }
                run++;
                keys++;
                twins += compared == 0 ? 1 : 0;
                i += compared <= 0 ? 1 : 0;
                j += compared >= 0 ? 1 : 0;
                left -= compared == 0 ? 2 : 1;
            }
            endRun(run);
        }

        private void endRun(int n) {
            if (n < 1) {
                return;
            }
            runs++;
            longest = Math.max(longest, n);
            cost++;
            for (int rest = n; rest > 1; rest >>= 1) {
                cost++;
            }
        }
    }

    /** All KEYS of all SETS in order, each as often as it is there. */
    private static final class Parade {
        private final Heap[] heaps;
        private final int[] heads = new int[SETS];

        Parade(Heap[] all) {
            heaps = all;
        }

        void begin() {
            for (int set = 0; set < SETS; set++) {
                heads[set] = 0;
            }
        }

        /** The next KEY; NONE behind the last one. */
        int next() {
            int least = NONE;
            int ofSet = NONE;
            for (int set = 0; set < SETS && set < heaps.length; set++) {
                int key = heaps[set].keyAt(heads[set]);
                if (key != NONE && (least == NONE || key < least)) {
                    least = key;
                    ofSet = set;
                }
            }
            if (ofSet != NONE) {
                heads[ofSet]++;
            }
            return least;
        }
    }

    /** All SETS, the ACTS on them, and what is reckoned from several of them. */
    private static final class Store {
        private final Heap[] heaps = new Heap[SETS];
        private final Tree tree = new Tree();
        private final Weave weave = new Weave();
        private final Parade parade;
        private final int[] weights = new int[SETS];
        private int cheapestOne = NONE;
        private int cheapestOther = NONE;
        private int cheapestCost = NONE;

        Store() {
            for (int set = 0; set < SETS; set++) {
                heaps[set] = new Heap();
            }
            parade = new Parade(heaps);
        }

        void empty() {
            for (int set = 0; set < SETS; set++) {
                heaps[set].empty();
            }
        }

        Heap heapAt(int set) {
            return set >= 0 && set < SETS ? heaps[set] : null;
        }

        Tree treeOf(Heap heap) {
            tree.grow(heap, NONE, NONE);
            return tree;
        }

        Weave weaveOf(Heap one, Heap other) {
            weave.weave(one, other);
            return weave;
        }

        int total() {
            int total = 0;
            for (int set = 0; set < SETS; set++) {
                total += heaps[set].size;
            }
            return total;
        }

        int putKey(int set, int key) {
            Heap heap = heapAt(set);
            if (heap == null || !isKey(key)) {
                return NO_SUCH;
            }
            if (heap.rankOf(key) != NONE) {
                return NOTHING_TO_DO;
            }
            if (heap.size >= ROOM || total() >= ROOM_IN_ALL) {
                return TOO_MANY;
            }
            return heap.insert(key);
        }

        int dropKey(int set, int key) {
            Heap heap = heapAt(set);
            if (heap == null || !isKey(key)) {
                return NO_SUCH;
            }
            int rank = heap.rankOf(key);
            if (rank == NONE) {
                return NOTHING_TO_DO;
            }
            heap.closeGap(rank, 1);
            return heap.size;
        }

        int cutAbove(int set, int above, int to) {
            Heap heap = heapAt(set);
            Heap other = heapAt(to);
            if (heap == null || other == null || set == to || !isKey(above)) {
                return NO_SUCH;
            }
            int rank = heap.notAbove(above);
            int going = heap.size - rank;
            if (going == 0) {
                return NOTHING_TO_DO;
            }
            if (other.size > 0) {
                return CAN_NOT_BE;
            }
            heap.giveStretch(rank, going, other);
            return going;
        }

        int joinTo(int to, int of) {
            Heap heap = heapAt(to);
            Heap other = heapAt(of);
            if (heap == null || other == null || to == of) {
                return NO_SUCH;
            }
            int reason = whyNotJoin(heap, other);
            if (reason != 0) {
                return reason;
            }
            other.giveStretch(0, other.size, heap);
            return heap.size;
        }

        /** For which reason a JOIN of two unlike SETS is REFUSED; 0 if it is not. */
        int whyNotJoin(Heap to, Heap of) {
            if (of.size == 0) {
                return NOTHING_TO_DO;
            }
            if (to.size > 0 && to.keyAt(to.size - 1) >= of.keyAt(0)) {
                return CAN_NOT_BE;
            }
            return to.size + of.size > ROOM ? TOO_MANY : 0;
        }

        int meltTo(int to, int of) {
            Heap heap = heapAt(to);
            Heap other = heapAt(of);
            if (heap == null || other == null || to == of) {
                return NO_SUCH;
            }
            weave.weave(heap, other);
            int reason = whyNotMelt(other, weave);
            if (reason != 0) {
                return reason;
            }
            heap.absorb(other, weave.keys);
            return weave.cost;
        }

        /** For which reason a MELT of a SET to one with which it is woven so is REFUSED; 0 if it is not. */
        int whyNotMelt(Heap of, Weave both) {
            if (of.size == 0) {
                return NOTHING_TO_DO;
            }
            return both.keys > ROOM ? TOO_MANY : 0;
        }

        int shiftBy(int set, int by) {
            Heap heap = heapAt(set);
            if (heap == null || by < -LAST_KEY || by > LAST_KEY) {
                return NO_SUCH;
            }
            if (by == 0 || heap.size == 0) {
                return NOTHING_TO_DO;
            }
            if (!isKey(heap.keyAt(0) + by) || !isKey(heap.keyAt(heap.size - 1) + by)) {
                return CAN_NOT_BE;
            }
            heap.shiftAll(by);
            return heap.size;
        }

        int moveStretch(int set, int from, int last, int to) {
            Heap heap = heapAt(set);
            Heap other = heapAt(to);
            if (heap == null || other == null || set == to || !isKey(from) || !isKey(last)) {
                return NO_SUCH;
            }
            int going = heap.howManyBetween(from, last);
            if (going == 0) {
                return NOTHING_TO_DO;
            }
            int rank = heap.below(from);
            if (other.howManyBetween(heap.keyAt(rank), heap.keyAt(rank + going - 1)) > 0) {
                return CAN_NOT_BE;
            }
            if (other.size + going > ROOM) {
                return TOO_MANY;
            }
            heap.giveStretch(rank, going, other);
            return going;
        }

        int markStretch(int set, int from, int last, boolean marked) {
            Heap heap = heapAt(set);
            if (heap == null || !isKey(from) || !isKey(last)) {
                return NO_SUCH;
            }
            int changed = heap.markBetween(from, last, marked ? 1 : 0);
            return changed == 0 ? NOTHING_TO_DO : changed;
        }

        int seekFrom(int set, int number) {
            Heap heap = heapAt(set);
            if (heap == null || !isKey(number)) {
                return NO_SUCH;
            }
            if (heap.size == 0) {
                return NOTHING_TO_DO;
            }
            int rank = Math.max(0, heap.notAbove(number) - 1);
            int steps = heap.finger == NONE ? 0 : treeOf(heap).steps(heap.rankOf(heap.finger), rank);
            heap.finger = heap.keyAt(rank);
            return steps;
        }

        int notEmpty() {
            int sets = 0;
            for (int set = 0; set < SETS; set++) {
                sets += heaps[set].size > 0 ? 1 : 0;
            }
            return sets;
        }

        int allMarked() {
            int marked = 0;
            for (int set = 0; set < SETS; set++) {
                marked += heaps[set].markedBetween(0, LAST_KEY);
            }
            return marked;
        }

        int unlike() {
            int all = total();
            int unlike = 0;
            int previous = NONE;
            parade.begin();
            for (int passed = 0; passed < all; passed++) {
                int key = parade.next();
                unlike += key != previous ? 1 : 0;
                previous = key;
            }
            return unlike;
        }

        int huffman() {
            for (int set = 0; set < SETS; set++) {
                weights[set] = heaps[set].size;
            }
            int sum = 0;
            for (int left = notEmpty(); left > 1; left--) {
                int least = lightest(NONE);
                int second = lightest(least);
                if (least == NONE || second == NONE) {
                    break;
                }
                int both = weights[least] + weights[second];
                weights[Math.max(least, second)] = 0;
                weights[Math.min(least, second)] = both;
                sum += both;
            }
            return sum;
        }

        /** The first of those with the least weight above 0, but for one; NONE without. */
        private int lightest(int but) {
            int lightest = NONE;
            for (int set = 0; set < SETS; set++) {
                if (set != but && weights[set] > 0 && (lightest == NONE || weights[set] < weights[lightest])) {
                    lightest = set;
                }
            }
            return lightest;
        }

        void findCheapest() {
            cheapestOne = NONE;
            cheapestOther = NONE;
            cheapestCost = NONE;
            for (int one = 0; one < SETS; one++) {
                for (int other = one + 1; other < SETS; other++) {
                    if (heaps[one].size > 0 && heaps[other].size > 0) {
                        weave.weave(heaps[one], heaps[other]);
                        takeIfCheaper(one, other);
                    }
                }
            }
        }

        private void takeIfCheaper(int one, int other) {
            boolean cheaper = cheapestCost == NONE || weave.cost < cheapestCost;
            if (cheaper && whyNotMelt(heaps[other], weave) == 0) {
                cheapestOne = one;
                cheapestOther = other;
                cheapestCost = weave.cost;
            }
        }
    }

    /** All SETS as they were once: their entries SET behind SET, since 240 are the most there are. */
    private static final class Snapshot {
        private final int[] entries = new int[ROOM_IN_ALL];
        private final int[] sizes = new int[SETS];
        private final int[] fingers = new int[SETS];

        void take(Store store) {
            int at = 0;
            for (int set = 0; set < SETS; set++) {
                Heap heap = store.heaps[set];
                int size = Math.min(heap.size, ROOM_IN_ALL - at);
                System.arraycopy(heap.entries, 0, entries, at, size);
                sizes[set] = size;
                fingers[set] = heap.finger;
                at += size;
            }
        }

        void give(Store store) {
            int at = 0;
            for (int set = 0; set < SETS; set++) {
                Heap heap = store.heaps[set];
                int size = Math.min(sizes[set], ROOM_IN_ALL - at);
                System.arraycopy(entries, at, heap.entries, 0, size);
                heap.size = size;
                heap.finger = fingers[set];
                at += size;
            }
        }
    }

    /** What was before each of the latest ACTS. */
    private static final class Past {
        /** One row more than can be UNDONE, so that an ACT that is REFUSED spoils none of them. */
        private static final int ROWS = UNDOABLE + 1;

        private final Snapshot[] rows = new Snapshot[ROWS];
        private int next = 0;
        private int held = 0;

        Past() {
            for (int row = 0; row < ROWS; row++) {
                rows[row] = new Snapshot();
            }
        }

        void prepare(Store store) {
            rows[next].take(store);
        }

        /** Keeps what was prepared if the ACT was not REFUSED: its answer as it is. */
        int settle(int answer) {
            if (answer >= 0) {
                next = next + 1 < ROWS ? next + 1 : 0;
                held = Math.min(held + 1, UNDOABLE);
            }
            return answer;
        }

        void stepBack(Store store) {
            next = next > 0 ? next - 1 : ROWS - 1;
            held--;
            rows[next].give(store);
        }

        void forget() {
            held = 0;
        }
    }

    /** All that is, but for what can be UNDONE. */
    private static final class Image {
        private final Snapshot heaps = new Snapshot();
        private final Row tape = new Row(new byte[TAPE_ROOM]);
        private final Row told = new Row(new byte[TOLD_ROOM]);
        private boolean taken = false;
        private int faultKind = 0;
        private int faultPlace = NONE;
    }

    /** The tape, read as a TEXT and done LINE by LINE as it is read. */
    private static final class Script {
        /** Kinds of tokens; - and ; are kinds by their own bytes. */
        private static final int END = 0;
        private static final int BAD = 1;
        private static final int WORD = 2;
        private static final int NUMBER = 3;

        private static final int LINE_SET = 0;
        private static final int LINE_MARK = 1;
        private static final int LINE_CUT = 2;
        private static final int LINE_JOIN = 3;
        private static final int LINE_MELT = 4;
        private static final int LINE_SHIFT = 5;
        private static final int LINE_MOVE = 6;

        private final Row tape;
        private final Store store;
        private final int[] numbers = new int[4];
        private int at;
        private int kind;
        private int place;
        private int value;
        private int faultKind;
        private int faultPlace;

        Script(Row tapeToRead, Store storeToFill) {
            tape = tapeToRead;
            store = storeToFill;
        }

        void perform() {
            at = 0;
            faultKind = 0;
            faultPlace = NONE;
            advance();
            // a LINE takes a byte at least, so there are no more of them than bytes
            for (int lines = 0; lines < TAPE_ROOM && faultKind == 0 && kind != END; lines++) {
                doLine();
            }
        }

        private void doLine() {
            int start = place;
            int line = kind == WORD ? lineHere() : NONE;
            if (line == NONE) {
                fail(1, place);
                return;
            }
            advance();
            String shape = shapeOf(line);
            for (int i = 0; i < shape.length() && i < numbers.length; i++) {
                numbers[i] = takeArgument(shape.charAt(i));
            }
            for (int items = 0; items < TAPE_ROOM && line == LINE_SET && faultKind == 0 && kind == NUMBER; items++) {
                putItem(numbers[0]);
            }
            if (kind != SEMICOLON) {
                fail(1, place);
            }
            if (faultKind == 0 && act(line) < 0) {
                fail(4, start);
            }
            advance();
        }

        /** The first FAULT that is met counts. */
        private void fail(int fault, int where) {
            if (faultKind == 0) {
                faultKind = fault;
                faultPlace = where;
            }
        }

        private int lineHere() {
            return spells("set") ? LINE_SET
                    : spells("mark") ? LINE_MARK
                    : spells("cut") ? LINE_CUT
                    : spells("join") ? LINE_JOIN
                    : spells("melt") ? LINE_MELT
                    : spells("shift") ? LINE_SHIFT
                    : spells("move") ? LINE_MOVE
                    : NONE;
        }

        private boolean spells(String word) {
            boolean alike = at - place == word.length();
            for (int i = 0; i < word.length() && alike; i++) {
                alike = tape.byteAt(place + i) == word.charAt(i);
            }
            return alike;
        }

        /** The NUMBERS behind a word: s a SET, k a KEY, b a KEY that may have a - ahead. */
        private static String shapeOf(int line) {
            switch (line) {
                case LINE_SET: return "s";
                case LINE_MARK: return "skk";
                case LINE_CUT: return "sks";
                case LINE_SHIFT: return "sb";
                case LINE_MOVE: return "skks";
                default: return "ss";
            }
        }

        private int takeArgument(char form) {
            boolean less = form == 'b' && kind == DASH;
            if (less) {
                advance();
            }
            int number = takeNumber(form == 's' ? LAST_SET : LAST_KEY);
            return less ? -number : number;
        }

        private int takeNumber(int greatest) {
            if (kind != NUMBER) {
                fail(1, place);
            } else if (value > greatest) {
                fail(2, place);
            }
            if (faultKind != 0) {
                return 0;
            }
            int number = value;
            advance();
            return number;
        }

        private void putItem(int set) {
            int start = place;
            int first = takeNumber(LAST_KEY);
            int last = first;
            if (kind == DASH) {
                advance();
                int lastPlace = place;
                last = takeNumber(LAST_KEY);
                if (last < first) {
                    fail(2, lastPlace);
                }
            }
            for (int key = first; key <= last && faultKind == 0; key++) {
                if (store.putKey(set, key) == TOO_MANY) {
                    fail(3, start);
                }
            }
        }

        /** Does the LINE; below 0 if it is REFUSED ('set' has been done already). */
        private int act(int line) {
            switch (line) {
                case LINE_MARK: return store.markStretch(numbers[0], numbers[1], numbers[2], true);
                case LINE_CUT: return store.cutAbove(numbers[0], numbers[1], numbers[2]);
                case LINE_JOIN: return store.joinTo(numbers[0], numbers[1]);
                case LINE_MELT: return store.meltTo(numbers[0], numbers[1]);
                case LINE_SHIFT: return store.shiftBy(numbers[0], numbers[1]);
                case LINE_MOVE: return store.moveStretch(numbers[0], numbers[1], numbers[2], numbers[3]);
                default: return 0;
            }
        }

        /** Goes on to the next token. */
        private void advance() {
            while (at < tape.length && isBlank(tape.byteAt(at))) {
                at++;
            }
            place = at;
            int first = tape.byteAt(at);
            if (first == NONE) {
                kind = END;
            } else if (isLetter(first)) {
                readWord();
            } else if (isDigit(first)) {
                readNumber();
            } else {
                kind = first == DASH || first == SEMICOLON ? first : BAD;
                at++;
            }
        }

        private void readWord() {
            kind = WORD;
            while (at < tape.length && isLetter(tape.byteAt(at))) {
                at++;
            }
        }

        private void readNumber() {
            value = 0;
            while (at < tape.length && isDigit(tape.byteAt(at))) {
                value = value * 10 + tape.byteAt(at) - '0';
                at++;
            }
            kind = at - place > 4 ? BAD : NUMBER;
        }

        private static boolean isBlank(int value) {
            return value == BLANK || value == LINE_FEED;
        }

        private static boolean isLetter(int value) {
            return value >= 'a' && value <= 'z';
        }

        private static boolean isDigit(int value) {
            return value >= '0' && value <= '9';
        }
    }
}
