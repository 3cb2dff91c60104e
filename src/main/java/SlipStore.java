/**
 * Nodes with clocks of their own, and links between them that each hold a store written by the one
 * clock and read by the other. The words in capitals are those of the document.
 */
public final class SlipStore {
    public static final int NONE = -1001, BAD = -1002, NO = -1003, FULL = -1004;

    private static final int MAX_NODES = 6, MAX_LINKS = 10, MAX_STATES = 5;
    private static final int MAX_LOOKS = 60, MAX_TICKS = 200;
    private static final int MAX_SETTLING = 30, MAX_TILL = 999;
    private static final int MAX_TEXT = 120, MAX_BYTE = 127, MAX_FIGURES = 3;
    // The shortest ORDER has three bytes: a letter, a figure, a semicolon.
    private static final int MAX_ORDERS = MAX_TEXT / 3, ORDER_FIELDS = 4;
    private static final int MAX_QUALITY = 9, MAX_RATE = 99, MAX_RANK = 9;
    private static final int USUAL_BITS = 8, SUM_OF_A_BIT = 100;

    private static final int FRAME = 0, MASK = 1, HOP_LIMIT = 2, SETTINGS = 3;
    private static final int[] LEAST_SETTING = {4, 0, 1};
    private static final int[] MOST_SETTING = {64, 128, 9};

    // The columns of a NODE's row are numbered as of() asks for them; a LOOK writes the first four.
    private static final int QUALITY = 0, HOPS = 1, RATE = 2, REFERENCE = 3, LOOKED_FIELDS = 4;
    private static final int OWN_QUALITY = 4, OWN_RATE = 5, SUM = 6, BITS = 7, NODE_FIELDS = 8;
    private static final int OFFER_FIELDS = 3;

    // The columns of a LINK's row are numbered as about() asks for them.
    private static final int FROM = 0, TO = 1, RANK = 2, UP = 3, FILL = 4, LOST = 5, REPEATED = 6;
    private static final int LOW = 7, HIGH = 8, BEYOND = 9, LINK_FIELDS = 10;

    private static final int KEY_OF_QUALITY = 100, KEY_OF_HOPS = 10, NO_KEY = 1000;

    private static final int COUNT_FIELDS = 10, TOLD_FIELDS = 5;

    // The letters of THE TEXT; CLEARS alone has no ORDER there.
    private static final int NODE_ORDER = 'n', LINK_ORDER = 'l', OWN_ORDER = 'o', TURN_ORDER = 'u';
    private static final int SET_ORDER = 's', LOOK_ORDER = 'k', TICK_ORDER = 't', CLEAR_ORDER = 'c';

    private static final long DIGEST_START = 2792L, DIGEST_FACTOR = 31L;
    private static final int FAULT_BASE = -10, ENDED_BASE = -2000;

    private Net now = new Net();
    // Every change is tried here first, so that a refused one leaves 'now' as it was.
    private Net trial = new Net();
    private final Net[] states = new Net[MAX_STATES];
    private int stateCount = 0;
    private final Script script = new Script();
    private int badCount = 0, noCount = 0, fullCount = 0;

    public SlipStore() {
        for (int s = 0; s < MAX_STATES; s++) {
            states[s] = new Net();
        }
    }

    public int node(int q, int r) {
        return change(NODE_ORDER, q, r, 0);
    }

    public int link(int a, int b, int k) {
        return change(LINK_ORDER, a, b, k);
    }

    public int owns(int i, int q, int r) {
        return change(OWN_ORDER, i, q, r);
    }

    public int turns(int i) {
        return change(TURN_ORDER, i, 0, 0);
    }

    public int sets(int k, int v) {
        return change(SET_ORDER, k, v, 0);
    }

    public int clears(int i) {
        return change(CLEAR_ORDER, i, 0, 0);
    }

    public int looks(int n) {
        return change(LOOK_ORDER, n, 0, 0);
    }

    public int ticks(int n) {
        return change(TICK_ORDER, n, 0, 0);
    }

    public int of(int i, int what) {
        if (!now.hasNode(i) || !isWithin(what, 0, NODE_FIELDS - 1)) {
            return refuse(BAD);
        }
        return now.nodes[i][what];
    }

    public int offers(int i, int what) {
        if (!now.hasLink(i) || !isWithin(what, 0, OFFER_FIELDS - 1)) {
            return refuse(BAD);
        }
        return now.offered(i, what);
    }

    public int would(int i) {
        if (!now.hasNode(i)) {
            return refuse(BAD);
        }
        trial.copyFrom(now);
        trial.lookOnce();
        return trial.nodes[i][REFERENCE];
    }

    public int chain(int i, int k) {
        if (!now.hasNode(i) || k < 0) {
            return refuse(BAD);
        }
        return now.chainNode(i, k);
    }

    public int ring(int i) {
        if (!now.hasNode(i)) {
            return refuse(BAD);
        }
        return now.isRing(i) ? 1 : 0;
    }

    public int settles() {
        trial.copyFrom(now);
        for (int looked = 0; looked <= MAX_SETTLING; looked++) {
            if (!trial.lookOnce()) {
                return looked;
            }
        }
        return NONE;
    }

    public int about(int i, int what) {
        if (!now.hasLink(i) || !isWithin(what, 0, LINK_FIELDS - 1)) {
            return refuse(BAD);
        }
        return now.links[i][what];
    }

    public int till(int i) {
        if (!now.hasLink(i)) {
            return refuse(BAD);
        }
        return now.ticksTillSlip(now.links[i]);
    }

    public int count(int what) {
        if (!isWithin(what, 0, COUNT_FIELDS - 1)) {
            return refuse(BAD);
        }
        return now.counted(what);
    }

    public int type(int c) {
        if (!isWithin(c, 0, MAX_BYTE)) {
            return refuse(BAD);
        }
        if (!script.append(c)) {
            return refuse(FULL);
        }
        return script.length;
    }

    public int clear() {
        int had = script.length;
        script.length = 0;
        return had;
    }

    public int does() {
        if (!script.read()) {
            return FAULT_BASE - script.place;
        }
        trial.copyFrom(now);
        for (int n = 0; n < script.orderCount; n++) {
            int[] order = script.orders[n];
            if (trial.carryOut(order[0], order[1], order[2], order[3]) < 0) {
                return ENDED_BASE - n;
            }
        }
        keepTrial();
        return script.orderCount;
    }

    public int back() {
        if (stateCount == 0) {
            return refuse(NO);
        }
        stateCount--;
        Net left = now;
        now = states[stateCount];
        states[stateCount] = left;
        return stateCount;
    }

    public int told(int what) {
        switch (what) {
            case 0: return badCount;
            case 1: return noCount;
            case 2: return fullCount;
            case 3: return script.length;
            case 4: return stateCount;
            default: return refuse(BAD);
        }
    }

    public long digest() {
        long h = DIGEST_START;
        for (int what = 0; what < TOLD_FIELDS; what++) {
            h = DIGEST_FACTOR * h + told(what);
        }
        for (int what = 0; what < COUNT_FIELDS; what++) {
            h = DIGEST_FACTOR * h + count(what);
        }
        for (int i = 0; i < now.nodeCount; i++) {
            h = DIGEST_FACTOR * digestRow(h, now.nodes[i]) + ring(i);
        }
        for (int i = 0; i < now.linkCount; i++) {
            h = DIGEST_FACTOR * digestRow(h, now.links[i]) + offers(i, QUALITY);
        }
        return DIGEST_FACTOR * h + settles();
    }

    private static long digestRow(long start, int[] row) {
        long h = start;
        for (int f = 0; f < row.length; f++) {
            h = DIGEST_FACTOR * h + row[f];
        }
        return h;
    }

    private static boolean isWithin(int value, int least, int most) {
        return value >= least && value <= most;
    }

    private int change(int letter, int a, int b, int c) {
        trial.copyFrom(now);
        int answer = trial.carryOut(letter, a, b, c);
        // No call that changes anything answers below 0 unless it is refused.
        if (answer < 0) {
            return refuse(answer);
        }
        keepTrial();
        return answer;
    }

    /** What was becomes the newest STATE; the room of the oldest one, or a free one, is for trials. */
    private void keepTrial() {
        if (stateCount == MAX_STATES) {
            dropOldestState();
        }
        Net free = states[stateCount];
        states[stateCount] = now;
        stateCount++;
        now = trial;
        trial = free;
    }

    private void dropOldestState() {
        Net oldest = states[0];
        for (int s = 1; s < MAX_STATES; s++) {
            states[s - 1] = states[s];
        }
        states[MAX_STATES - 1] = oldest;
        stateCount = MAX_STATES - 1;
    }

    private int refuse(int reason) {
        if (reason == BAD) {
            badCount++;
        } else if (reason == NO) {
            noCount++;
        } else {
            fullCount++;
        }
        return reason;
    }

    /** All that a STATE holds. Its orders answer as the calls do, but count no refusals. */
    private static final class Net {
        final int[][] nodes = new int[MAX_NODES][NODE_FIELDS];
        final int[][] links = new int[MAX_LINKS][LINK_FIELDS];
        final int[] settings = new int[SETTINGS];
        int nodeCount = 0, linkCount = 0, tickCount = 0;
        // All NODES look at once: what is OFFERED and what they find waits here till each has looked.
        private final int[][] found = new int[MAX_NODES][LOOKED_FIELDS];
        private final int[] keys = new int[MAX_LINKS];

        Net() {
            settings[FRAME] = 16;
            settings[MASK] = 8;
            settings[HOP_LIMIT] = 5;
        }

        void copyFrom(Net other) {
            nodeCount = other.nodeCount;
            linkCount = other.linkCount;
            tickCount = other.tickCount;
            System.arraycopy(other.settings, 0, settings, 0, SETTINGS);
            for (int i = 0; i < nodeCount; i++) {
                System.arraycopy(other.nodes[i], 0, nodes[i], 0, NODE_FIELDS);
            }
            for (int i = 0; i < linkCount; i++) {
                System.arraycopy(other.links[i], 0, links[i], 0, LINK_FIELDS);
            }
        }

        boolean hasNode(int i) {
            return i >= 0 && i < nodeCount;
        }

        boolean hasLink(int i) {
            return i >= 0 && i < linkCount;
        }

        int carryOut(int letter, int a, int b, int c) {
            switch (letter) {
                case NODE_ORDER: return addNode(a, b);
                case LINK_ORDER: return addLink(a, b, c);
                case OWN_ORDER: return tellOwn(a, b, c);
                case TURN_ORDER: return turnLink(a);
                case SET_ORDER: return tellSetting(a, b);
                case CLEAR_ORDER: return clearLink(a);
                case LOOK_ORDER: return lookOften(a);
                case TICK_ORDER: return tickOften(a);
                default: return BAD;
            }
        }

        private int addNode(int quality, int rate) {
            if (!isOwn(quality, rate)) {
                return BAD;
            }
            if (nodeCount >= MAX_NODES) {
                return FULL;
            }
            startNode(nodes[nodeCount], quality, rate);
            nodeCount++;
            return nodeCount - 1;
        }

        private int addLink(int from, int to, int rank) {
            if (!hasNode(from) || !hasNode(to) || from == to || !isWithin(rank, 0, MAX_RANK)) {
                return BAD;
            }
            if (linkCount >= MAX_LINKS) {
                return FULL;
            }
            int[] link = links[linkCount];
            link[FROM] = from;
            link[TO] = to;
            link[RANK] = rank;
            link[UP] = 1;
            startStore(link, settings[FRAME]);
            linkCount++;
            return linkCount - 1;
        }

        private int tellOwn(int i, int quality, int rate) {
            if (!hasNode(i) || !isOwn(quality, rate)) {
                return BAD;
            }
            startNode(nodes[i], quality, rate);
            int followers = 0;
            for (int n = 0; n < nodeCount; n++) {
                if (nodeAhead(n) == i) {
                    followers++;
                }
            }
            return followers;
        }

        private int turnLink(int i) {
            if (!hasLink(i)) {
                return BAD;
            }
            links[i][UP] = 1 - links[i][UP];
            return links[i][UP];
        }

        private int tellSetting(int k, int value) {
            if (!isWithin(k, 0, SETTINGS - 1) || !isWithin(value, LEAST_SETTING[k], MOST_SETTING[k])) {
                return BAD;
            }
            int before = settings[k];
            settings[k] = value;
            if (k == FRAME) {
                for (int i = 0; i < linkCount; i++) {
                    startStore(links[i], value);
                }
            }
            return before;
        }

        private int clearLink(int i) {
            if (!hasLink(i)) {
                return BAD;
            }
            int slips = links[i][LOST] + links[i][REPEATED];
            startStore(links[i], links[i][FILL]);
            return slips;
        }

        private int lookOften(int times) {
            if (!isWithin(times, 1, MAX_LOOKS)) {
                return BAD;
            }
            for (int n = 0; n < times; n++) {
                lookOnce();
            }
            return followerCount();
        }

        private int tickOften(int times) {
            if (!isWithin(times, 1, MAX_TICKS)) {
                return BAD;
            }
            int slips = 0;
            for (int n = 0; n < times; n++) {
                slips += tickOnce();
            }
            return slips;
        }

        private static boolean isOwn(int quality, int rate) {
            return isWithin(quality, 0, MAX_QUALITY) && isWithin(rate, -MAX_RATE, MAX_RATE);
        }

        private static void startNode(int[] node, int quality, int rate) {
            node[QUALITY] = quality;
            node[HOPS] = 0;
            node[RATE] = rate;
            node[REFERENCE] = NONE;
            node[OWN_QUALITY] = quality;
            node[OWN_RATE] = rate;
            node[SUM] = 0;
            node[BITS] = 0;
        }

        private static void startStore(int[] link, int fill) {
            link[FILL] = fill;
            link[LOW] = fill;
            link[HIGH] = fill;
            link[LOST] = 0;
            link[REPEATED] = 0;
            link[BEYOND] = 0;
        }

        /** The NODE from which the REFERENCE of NODE i comes, or NONE. */
        private int nodeAhead(int i) {
            int reference = nodes[i][REFERENCE];
            return reference >= 0 && reference < linkCount ? links[reference][FROM] : NONE;
        }

        private boolean isOffering(int i) {
            int from = links[i][FROM];
            return links[i][UP] == 1
                && nodeAhead(from) != links[i][TO]
                && nodes[from][HOPS] < settings[HOP_LIMIT];
        }

        int offered(int i, int what) {
            if (!isOffering(i)) {
                return NONE;
            }
            int value = nodes[links[i][FROM]][what];
            return what == HOPS ? value + 1 : value;
        }

        /** One LOOK; whether it made anything of any NODE other. */
        boolean lookOnce() {
            for (int k = 0; k < linkCount; k++) {
                keys[k] = isOffering(k) ? keyOf(links[k]) : NO_KEY;
            }
            for (int i = 0; i < nodeCount; i++) {
                find(i, found[i]);
            }
            boolean changed = false;
            for (int i = 0; i < nodeCount; i++) {
                for (int f = 0; f < LOOKED_FIELDS; f++) {
                    changed = changed || nodes[i][f] != found[i][f];
                    nodes[i][f] = found[i][f];
                }
            }
            return changed;
        }

        /** QUALITY, HOPS and RANK have one figure each where a LINK OFFERS: the least key is the best. */
        private int keyOf(int[] link) {
            int[] giver = nodes[link[FROM]];
            return KEY_OF_QUALITY * giver[QUALITY] + KEY_OF_HOPS * (giver[HOPS] + 1) + link[RANK];
        }

        private void find(int i, int[] row) {
            int best = bestLink(i);
            row[REFERENCE] = best;
            if (best == NONE) {
                row[QUALITY] = nodes[i][OWN_QUALITY];
                row[HOPS] = 0;
                row[RATE] = nodes[i][OWN_RATE];
            } else {
                int[] giver = nodes[links[best][FROM]];
                row[QUALITY] = giver[QUALITY];
                row[HOPS] = giver[HOPS] + 1;
                row[RATE] = giver[RATE];
            }
        }

        private int bestLink(int i) {
            int best = NONE;
            // Only a key of a better QUALITY than its OWN is below this.
            int leastKey = KEY_OF_QUALITY * nodes[i][OWN_QUALITY];
            for (int k = 0; k < linkCount; k++) {
                if (links[k][TO] == i && keys[k] < leastKey) {
                    best = k;
                    leastKey = keys[k];
                }
            }
            return best;
        }

        /** One TICK; the frames LOST and REPEATED by it. */
        private int tickOnce() {
            for (int i = 0; i < nodeCount; i++) {
                int sum = nodes[i][SUM] + nodes[i][RATE];
                nodes[i][BITS] = USUAL_BITS + sum / SUM_OF_A_BIT;
                nodes[i][SUM] = sum % SUM_OF_A_BIT;
            }
            int slips = 0;
            for (int i = 0; i < linkCount; i++) {
                slips += moveStore(links[i]);
            }
            tickCount++;
            return slips;
        }

        private int moveStore(int[] link) {
            int frame = settings[FRAME];
            int fill = link[FILL] + nodes[link[FROM]][BITS] - nodes[link[TO]][BITS];
            int slips = 0;
            // Bits of two NODES differ by 2 at most and a frame has 4 or more: one frame is enough.
            if (fill > 2 * frame) {
                fill -= frame;
                link[LOST]++;
                slips = 1;
            } else if (fill < 0) {
                fill += frame;
                link[REPEATED]++;
                slips = 1;
            }
            link[FILL] = fill;
            link[LOW] = Math.min(link[LOW], fill);
            link[HIGH] = Math.max(link[HIGH], fill);
            if (Math.abs(fill - frame) > settings[MASK]) {
                link[BEYOND]++;
            }
            return slips;
        }

        int ticksTillSlip(int[] link) {
            int[] writer = nodes[link[FROM]], reader = nodes[link[TO]];
            int written = writer[SUM], read = reader[SUM], fill = link[FILL];
            for (int ticked = 1; ticked <= MAX_TILL; ticked++) {
                written += writer[RATE];
                read += reader[RATE];
                fill += written / SUM_OF_A_BIT - read / SUM_OF_A_BIT;
                written %= SUM_OF_A_BIT;
                read %= SUM_OF_A_BIT;
                if (!isWithin(fill, 0, 2 * settings[FRAME])) {
                    return ticked;
                }
            }
            return NONE;
        }

        int chainNode(int i, int k) {
            int at = i, seen = 0;
            for (int step = 0; step < MAX_NODES && hasNode(at) && (seen & 1 << at) == 0; step++) {
                if (step == k) {
                    return at;
                }
                seen |= 1 << at;
                at = nodeAhead(at);
            }
            return NONE;
        }

        boolean isRing(int i) {
            // A CHAIN that goes on for more steps than there are NODES has come to one again.
            int at = i;
            for (int step = 0; step < MAX_NODES && hasNode(at); step++) {
                at = nodeAhead(at);
            }
            return at != NONE;
        }

        int counted(int what) {
            switch (what) {
                case FRAME:
                case MASK:
                case HOP_LIMIT: return settings[what];
                case 3: return nodeCount;
                case 4: return linkCount;
                case 5: return followerCount();
                case 6: return ringCount();
                case 7: return sumOfLinks(LOST);
                case 8: return sumOfLinks(REPEATED);
                default: return tickCount;
            }
        }

        private int followerCount() {
            int followers = 0;
            for (int i = 0; i < nodeCount; i++) {
                if (nodes[i][REFERENCE] != NONE) {
                    followers++;
                }
            }
            return followers;
        }

        private int ringCount() {
            int rings = 0;
            for (int i = 0; i < nodeCount; i++) {
                if (isRing(i)) {
                    rings++;
                }
            }
            return rings;
        }

        private int sumOfLinks(int field) {
            int sum = 0;
            for (int i = 0; i < linkCount; i++) {
                sum += links[i][field];
            }
            return sum;
        }
    }

    /** THE TEXT, and the ORDERS read from it. */
    private static final class Script {
        private static final int BLANK = 32, END = -1;

        int length = 0, place = 0, orderCount = 0;
        final int[][] orders = new int[MAX_ORDERS][ORDER_FIELDS];
        private final int[] text = new int[MAX_TEXT];

        boolean append(int c) {
            if (length >= MAX_TEXT) {
                return false;
            }
            text[length] = c;
            length++;
            return true;
        }

        /** Reads all ORDERS; if it answers false, 'place' is the FAULT. */
        boolean read() {
            place = 0;
            orderCount = 0;
            skipBlanks();
            // The first ORDER is asked for even at the end: a text without one ends too early.
            for (int n = 0; n < MAX_ORDERS && (n == 0 || place < length); n++) {
                if (!readOrder(orders[n])) {
                    return false;
                }
                orderCount = n + 1;
                skipBlanks();
            }
            return true;
        }

        private boolean readOrder(int[] order) {
            int letter = current();
            int numbers = numbersOf(letter);
            if (numbers == 0) {
                return false;
            }
            place++;
            order[0] = letter;
            boolean endsInRate = letter == NODE_ORDER || letter == OWN_ORDER;
            for (int k = 1; k <= numbers; k++) {
                skipBlanks();
                if (!readNumber(order, k, endsInRate && k == numbers)) {
                    return false;
                }
            }
            skipBlanks();
            if (current() != ';') {
                return false;
            }
            place++;
            return true;
        }

        private boolean readNumber(int[] order, int k, boolean mayBeBelowZero) {
            boolean belowZero = mayBeBelowZero && current() == '-';
            if (belowZero) {
                place++;
            }
            int figures = 0, value = 0;
            while (figures < MAX_FIGURES && isFigure(current())) {
                value = 10 * value + current() - '0';
                figures++;
                place++;
            }
            order[k] = belowZero ? -value : value;
            return figures > 0 && !isFigure(current());
        }

        private void skipBlanks() {
            while (place < length && text[place] == BLANK) {
                place++;
            }
        }

        private int current() {
            return place < length ? text[place] : END;
        }

        private static boolean isFigure(int c) {
            return c >= '0' && c <= '9';
        }

        /** How many numbers the ORDER with this letter has; 0: there is no such ORDER. */
        private static int numbersOf(int letter) {
            switch (letter) {
                case TURN_ORDER:
                case LOOK_ORDER:
                case TICK_ORDER: return 1;
                case NODE_ORDER:
                case SET_ORDER: return 2;
                case LINK_ORDER:
                case OWN_ORDER: return 3;
                default: return 0;
            }
        }
    }
}
