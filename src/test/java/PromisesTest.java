/** For each promise: ordinary inputs, the edges that the document names, and wrong inputs. */
public final class PromisesTest {
    private static final int NONE = -1001, BAD = -1002, NO = -1003, FULL = -1004;
    private static final int[] FAR = {Integer.MIN_VALUE, Integer.MIN_VALUE + 1, -1001, Integer.MAX_VALUE};
    private static final Check check = new Check();

    private static void due(String call, long got, long want) {
        check.due(call, got, want);
    }

    public static void main(String[] args) {
        newObject();
        node();
        link();
        owns();
        turns();
        sets();
        clears();
        looks();
        ticks();
        of();
        offers();
        would();
        chainAndRing();
        settles();
        about();
        till();
        count();
        typeAndClear();
        does();
        faults();
        back();
        told();
        digest();
        fullHouse();
        wrongNumbers();
        check.end();
    }

    private static SlipStore withNodes(int... qualitiesAndRates) {
        SlipStore x = new SlipStore();
        for (int i = 0; i + 1 < qualitiesAndRates.length; i += 2) {
            x.node(qualitiesAndRates[i], qualitiesAndRates[i + 1]);
        }
        return x;
    }

    private static int does(SlipStore x, String text) {
        x.clear();
        for (int i = 0; i < text.length(); i++) {
            x.type(text.charAt(i));
        }
        return x.does();
    }

    /** Node 0 is the best, 1 to 3 follow one another in a ring once link 0 is DOWN. */
    private static SlipStore withRing() {
        SlipStore x = withNodes(0, 10, 4, 0, 4, 0, 4, 0);
        x.link(0, 1, 0);
        x.link(1, 2, 0);
        x.link(2, 3, 0);
        x.link(3, 1, 1);
        x.sets(2, 9);
        x.looks(3);
        x.turns(0);
        x.looks(1);
        return x;
    }

    private static void newObject() {
        SlipStore x = new SlipStore();
        int[] due = {16, 8, 5, 0, 0, 0, 0, 0, 0, 0};
        for (int what = 0; what < due.length; what++) {
            due("new count " + what, x.count(what), due[what]);
        }
        for (int what = 0; what < 5; what++) {
            due("new told " + what, x.told(what), 0);
        }
        due("new settles", x.settles(), 0);
        due("new clear", x.clear(), 0);
        due("new does", x.does(), -10);
        due("new back", x.back(), NO);
        SlipStore y = new SlipStore();
        y.node(1, 1);
        due("another object's nodes", x.count(3), 0);
    }

    private static void node() {
        SlipStore x = new SlipStore();
        due("node least", x.node(0, -99), 0);
        due("node most", x.node(9, 99), 1);
        due("node q low", x.node(-1, 0), BAD);
        due("node q high", x.node(10, 0), BAD);
        due("node r low", x.node(0, -100), BAD);
        due("node r high", x.node(0, 100), BAD);
        int[] due = {9, 0, 99, NONE, 9, 99, 0, 0};
        for (int what = 0; what < due.length; what++) {
            due("new node of " + what, x.of(1, what), due[what]);
        }
        for (int i = 2; i < 6; i++) {
            due("node " + i, x.node(5, i), i);
        }
        due("node seventh", x.node(5, 0), FULL);
        due("node seventh wrong", x.node(5, 100), BAD);
        due("node count", x.count(3), 6);
        due("node told BAD", x.told(0), 5);
        due("node told FULL", x.told(2), 1);
        due("node states", x.told(4), 5);
    }

    private static void link() {
        SlipStore x = withNodes(1, 0, 2, 0);
        x.sets(0, 20);
        due("link", x.link(0, 1, 9), 0);
        due("link side by side", x.link(0, 1, 9), 1);
        due("link other way", x.link(1, 0, 0), 2);
        due("link alike", x.link(1, 1, 0), BAD);
        due("link from", x.link(2, 1, 0), BAD);
        due("link from low", x.link(-1, 1, 0), BAD);
        due("link to", x.link(0, 2, 0), BAD);
        due("link to low", x.link(0, -1, 0), BAD);
        due("link rank low", x.link(0, 1, -1), BAD);
        due("link rank high", x.link(0, 1, 10), BAD);
        int[] due = {0, 1, 9, 1, 20, 0, 0, 20, 20, 0};
        for (int what = 0; what < due.length; what++) {
            due("new link about " + what, x.about(0, what), due[what]);
        }
        for (int i = 3; i < 10; i++) {
            due("link " + i, x.link(0, 1, 1), i);
        }
        due("link eleventh", x.link(0, 1, 1), FULL);
        due("link eleventh wrong", x.link(0, 0, 1), BAD);
        due("link count", x.count(4), 10);
        due("link told BAD", x.told(0), 8);
        due("link told FULL", x.told(2), 1);
    }

    private static void owns() {
        SlipStore x = withNodes(1, 30, 5, 50, 5, 60, 0, 70);
        x.link(0, 1, 0);
        x.link(0, 2, 0);
        x.link(1, 2, 0);
        x.link(3, 0, 0);
        x.turns(3);
        x.looks(2);
        x.ticks(3);
        due("owns sum before", x.of(0, 6), 90);
        due("owns bits before", x.of(0, 7), 8);
        x.turns(3);
        x.looks(1);
        due("owns reference before", x.of(0, 3), 3);
        due("owns followed by two", x.owns(0, 7, -8), 2);
        int[] due = {7, 0, -8, NONE, 7, -8, 0, 0};
        for (int what = 0; what < due.length; what++) {
            due("owns of " + what, x.of(0, what), due[what]);
        }
        due("owns leaves the others", x.of(1, 3), 0);
        due("owns followed by none", x.owns(2, 0, 0), 0);
        due("owns followed by one", x.owns(0, 7, -8), 1);
        due("owns node", x.owns(4, 0, 0), BAD);
        due("owns node low", x.owns(-1, 0, 0), BAD);
        due("owns quality", x.owns(0, 10, 0), BAD);
        due("owns quality low", x.owns(0, -1, 0), BAD);
        due("owns rate", x.owns(0, 0, 100), BAD);
        due("owns rate low", x.owns(0, 0, -100), BAD);
        due("owns least", x.owns(0, 0, -99), 1);
        due("owns most", x.owns(0, 9, 99), 1);
        due("owns told", x.told(0), 6);
        SlipStore y = withNodes(9, 0, 1, 0);
        y.link(1, 0, 0);
        y.looks(1);
        due("owns followed by node 0", y.owns(1, 1, 0), 1);
    }

    private static void turns() {
        SlipStore x = withNodes(1, 0, 5, 0);
        x.link(0, 1, 0);
        x.looks(1);
        due("turns down", x.turns(0), 0);
        due("turns about", x.about(0, 3), 0);
        due("turns reference stays", x.of(1, 3), 0);
        due("turns up", x.turns(0), 1);
        due("turns about up", x.about(0, 3), 1);
        due("turns other", x.turns(1), BAD);
        due("turns low", x.turns(-1), BAD);
        due("turns states", x.told(4), 5);
    }

    private static void sets() {
        SlipStore x = withNodes(0, 99, 0, -99);
        x.link(0, 1, 0);
        x.link(1, 0, 0);
        due("sets frame", x.sets(0, 4), 16);
        due("sets mask", x.sets(1, 0), 8);
        due("sets hops", x.sets(2, 9), 5);
        x.ticks(10);
        due("sets beyond before", x.about(0, 9) > 0 ? 1 : 0, 1);
        due("sets lost before", x.about(0, 5) > 0 ? 1 : 0, 1);
        int beyond = x.about(0, 9);
        due("sets repeated before", x.about(1, 6) > 0 ? 1 : 0, 1);
        due("sets mask again", x.sets(1, 128), 0);
        due("sets mask clears nothing", x.about(0, 9), beyond);
        due("sets hops least", x.sets(2, 1), 9);
        due("sets hops clears nothing", x.about(0, 9), beyond);
        due("sets frame alike", x.sets(0, 4), 4);
        int[] due = {0, 1, 0, 1, 4, 0, 0, 4, 4, 0};
        for (int what = 0; what < due.length; what++) {
            due("sets about " + what, x.about(0, what), due[what]);
        }
        due("sets repeated", x.about(1, 6), 0);
        due("sets ticks stay", x.count(9), 10);
        due("sets sum stays", x.of(0, 6), 90);
        due("sets bits stay", x.of(0, 7), 9);
        due("sets frame most", x.sets(0, 64), 4);
        int[][] wrong = {{0, 3}, {0, 65}, {1, -1}, {1, 129}, {2, 0}, {2, 10}, {3, 5}, {-1, 5}};
        for (int[] w : wrong) {
            due("sets wrong " + w[0] + " " + w[1], x.sets(w[0], w[1]), BAD);
        }
        due("sets now", x.count(0), 64);
        due("sets told", x.told(0), wrong.length);
    }

    private static void clears() {
        SlipStore x = withNodes(0, 99, 0, -99);
        x.link(0, 1, 0);
        x.link(1, 0, 0);
        x.sets(0, 4);
        x.sets(1, 1);
        x.ticks(6);
        // fills of link 0: 4 6 8 6(lost) 8 6(lost)
        due("clears lost before", x.about(0, 5), 2);
        due("clears repeated before", x.about(1, 6), 2);
        due("clears beyond before", x.about(0, 9), 5);
        due("clears", x.clears(0), 2);
        int[] due = {0, 1, 0, 1, 6, 0, 0, 6, 6, 0};
        for (int what = 0; what < due.length; what++) {
            due("clears about " + what, x.about(0, what), due[what]);
        }
        due("clears not the other", x.about(1, 6), 2);
        due("clears again", x.clears(0), 0);
        due("clears other", x.clears(1), 2);
        due("clears repeated", x.about(1, 6), 0);
        x.ticks(1);
        due("clears low then", x.about(0, 7), 6);
        due("clears high then", x.about(0, 8), 8);
        due("clears wrong", x.clears(2), BAD);
        due("clears low", x.clears(-1), BAD);
    }

    private static void looks() {
        SlipStore x = withNodes(3, 1, 5, 2, 5, 3, 5, 4, 2, 5);
        x.link(0, 1, 0);
        x.link(1, 2, 0);
        x.link(2, 3, 0);
        due("looks one", x.looks(1), 1);
        due("looks at once", x.of(2, 3), NONE);
        due("looks like is not better", x.of(2, 0), 5);
        due("looks two", x.looks(2), 3);
        due("looks hops", x.of(3, 1), 3);
        due("looks rate", x.of(3, 2), 1);
        due("looks own rate", x.of(3, 5), 4);
        x.link(4, 3, 9);
        due("looks best quality first", x.looks(1), 3);
        due("looks reference", x.of(3, 3), 3);
        due("looks fewer hops than rank", x.owns(4, 3, 6), 1);
        x.looks(1);
        due("looks hops over rank", x.of(3, 3), 3);
        x.link(0, 3, 8);
        x.looks(1);
        due("looks rank over number", x.of(3, 3), 4);
        x.link(0, 3, 8);
        x.looks(1);
        due("looks least number", x.of(3, 3), 4);
        x.turns(4);
        x.looks(1);
        due("looks next number", x.of(3, 3), 5);
        due("looks none", x.looks(0), BAD);
        due("looks below", x.looks(-1), BAD);
        due("looks too many", x.looks(61), BAD);
        due("looks most", x.looks(60), 3);
        due("looks never back", neverBack(), NONE);
        mostHops();
    }

    /** What node 0 told goes round till it has as many HOPS as can be, by LINKS of the last RANK. */
    private static void mostHops() {
        SlipStore x = withNodes(0, 0, 1, 0, 1, 0, 1, 0);
        x.link(0, 1, 9);
        x.link(1, 2, 9);
        x.link(2, 3, 9);
        x.link(3, 1, 9);
        x.sets(2, 9);
        x.looks(3);
        x.turns(0);
        due("looks round and round", x.looks(6), 3);
        due("looks most hops", x.of(3, 1), 9);
        due("looks quality of most hops", x.of(3, 0), 0);
        due("looks nothing offered then", x.offers(3, 0), NONE);
        due("looks one less", x.looks(1), 2);
        due("looks own again", x.of(1, 0), 1);
    }

    /** Node 1 follows node 0, so it offers nothing to it when node 0 has become bad. */
    private static int neverBack() {
        SlipStore x = withNodes(1, 0, 5, 0);
        x.link(0, 1, 0);
        x.link(1, 0, 0);
        x.looks(1);
        x.owns(0, 9, 0);
        x.looks(1);
        return x.of(0, 3);
    }

    private static void ticks() {
        SlipStore x = withNodes(0, 50, 0, -50, 0, 0);
        x.link(0, 2, 0);
        x.link(1, 2, 0);
        x.sets(0, 4);
        x.sets(1, 2);
        due("ticks one", x.ticks(1), 0);
        due("ticks sum", x.of(0, 6), 50);
        due("ticks sum below", x.of(1, 6), -50);
        due("ticks bits", x.of(2, 7), 8);
        due("ticks two", x.ticks(1), 0);
        due("ticks sum again", x.of(0, 6), 0);
        due("ticks more bits", x.of(0, 7), 9);
        due("ticks fewer bits", x.of(1, 7), 7);
        due("ticks fill", x.about(0, 4), 5);
        due("ticks fill below", x.about(1, 4), 3);
        due("ticks to the edge", x.ticks(6), 0);
        due("ticks full", x.about(0, 4), 8);
        due("ticks empty", x.about(1, 4), 0);
        due("ticks beyond", x.about(0, 9), 3);
        due("ticks over the edge", x.ticks(2), 2);
        due("ticks fill lost", x.about(0, 4), 5);
        due("ticks fill repeated", x.about(1, 4), 3);
        due("ticks lost", x.about(0, 5), 1);
        due("ticks repeated", x.about(1, 6), 1);
        due("ticks high", x.about(0, 8), 8);
        due("ticks low", x.about(1, 7), 0);
        due("ticks not low", x.about(0, 7), 4);
        x.turns(0);
        due("ticks though down", x.ticks(2), 0);
        due("ticks fill though down", x.about(0, 4), 6);
        due("ticks none", x.ticks(0), BAD);
        due("ticks below", x.ticks(-1), BAD);
        due("ticks too many", x.ticks(201), BAD);
        due("ticks most", x.ticks(200), 50);
        due("ticks so far", x.count(9), 212);
    }

    private static void of() {
        SlipStore x = withNodes(2, 9, 6, -7);
        x.link(0, 1, 0);
        x.looks(1);
        x.ticks(1);
        int[] due = {2, 1, 9, 0, 6, -7, 9, 8};
        for (int what = 0; what < due.length; what++) {
            due("of " + what, x.of(1, what), due[what]);
        }
        due("of what", x.of(1, 8), BAD);
        due("of what low", x.of(1, -1), BAD);
        due("of node", x.of(2, 0), BAD);
        due("of node low", x.of(-1, 0), BAD);
        due("of told", x.told(0), 4);
    }

    private static void offers() {
        SlipStore x = withNodes(2, 9, 6, -7);
        x.link(0, 1, 0);
        x.link(1, 0, 0);
        due("offers quality", x.offers(1, 0), 6);
        due("offers hops", x.offers(1, 1), 1);
        due("offers rate", x.offers(1, 2), -7);
        x.looks(1);
        for (int what = 0; what < 3; what++) {
            due("offers never back " + what, x.offers(1, what), NONE);
        }
        due("offers on", x.offers(0, 0), 2);
        x.turns(0);
        due("offers down", x.offers(0, 0), NONE);
        due("offers what", x.offers(0, 3), BAD);
        due("offers what low", x.offers(0, -1), BAD);
        due("offers link", x.offers(2, 0), BAD);
        due("offers link low", x.offers(-1, 0), BAD);
        due("offers told", x.told(0), 4);
        x.node(9, 0);
        x.link(1, 2, 0);
        x.sets(2, 2);
        due("offers fewer hops", x.offers(2, 1), 2);
        x.sets(2, 1);
        due("offers too many hops", x.offers(2, 1), NONE);
    }

    private static void would() {
        SlipStore x = withNodes(2, 0, 6, 0, 2, 0);
        x.link(0, 1, 5);
        x.link(2, 1, 4);
        x.link(1, 2, 0);
        due("would least rank", x.would(1), 1);
        due("would none", x.would(0), NONE);
        due("would not worse", x.would(2), NONE);
        due("would changes nothing", x.of(1, 3), NONE);
        x.turns(1);
        due("would other", x.would(1), 0);
        due("would node", x.would(3), BAD);
        due("would low", x.would(-1), BAD);
        due("would told", x.told(0), 2);
    }

    private static void chainAndRing() {
        SlipStore x = withRing();
        x.node(9, 0);
        x.link(3, 4, 0);
        x.looks(1);
        int[] due = {1, 3, 2, NONE, NONE};
        for (int k = 0; k < due.length; k++) {
            due("chain of ring " + k, x.chain(1, k), due[k]);
        }
        int[] dueOfTail = {4, 3, 2, 1, NONE};
        for (int k = 0; k < dueOfTail.length; k++) {
            due("chain into ring " + k, x.chain(4, k), dueOfTail[k]);
        }
        due("chain alone", x.chain(0, 0), 0);
        due("chain alone on", x.chain(0, 1), NONE);
        due("chain far", x.chain(1, Integer.MAX_VALUE), NONE);
        due("chain below", x.chain(1, -1), BAD);
        due("chain node", x.chain(5, 0), BAD);
        due("chain node low", x.chain(-1, 0), BAD);
        due("ring", x.ring(1), 1);
        due("ring of tail", x.ring(4), 1);
        due("ring not", x.ring(0), 0);
        due("ring node", x.ring(5), BAD);
        due("ring low", x.ring(-1), BAD);
        due("rings", x.count(6), 4);
        due("chain told", x.told(0), 5);
        SlipStore y = withNodes(0, 0, 1, 0, 2, 0, 3, 0, 4, 0, 5, 0);
        for (int i = 0; i < 5; i++) {
            y.link(i, i + 1, 0);
        }
        y.looks(5);
        due("chain of six", y.chain(5, 5), 0);
        due("chain of six on", y.chain(5, 6), NONE);
        due("chain of six no ring", y.ring(5), 0);
    }

    private static void settles() {
        SlipStore x = withNodes(0, 0, 5, 0, 5, 0, 5, 0);
        x.link(0, 1, 0);
        due("settles one", x.settles(), 1);
        x.link(1, 2, 0);
        x.link(2, 3, 0);
        due("settles three", x.settles(), 3);
        due("settles changes nothing", x.of(1, 3), NONE);
        due("settles no state", x.told(4), 5);
        x.looks(2);
        due("settles one more", x.settles(), 1);
        x.looks(1);
        due("settles now", x.settles(), 0);
        x.owns(0, 0, 3);
        due("settles by rate", x.settles(), 3);
        SlipStore y = slowToSettle();
        due("settles late", y.settles(), 14);
        y.looks(13);
        due("settles but one", y.settles(), 1);
        y.looks(1);
        due("settles at last", y.settles(), 0);
    }

    /** What node 0 told goes round in rings till its HOPS are too many; the longest that is known. */
    private static SlipStore slowToSettle() {
        SlipStore x = withNodes(1, 0, 4, 0, 5, 0, 4, 0, 3, 0, 2, 0);
        int[][] links = {{0, 3, 0}, {3, 1, 1}, {4, 2, 0}, {2, 0, 1}, {0, 5, 0}, {5, 4, 2}, {2, 4, 2}};
        for (int[] row : links) {
            x.link(row[0], row[1], row[2]);
        }
        x.looks(1);
        x.owns(0, 4, 0);
        x.sets(2, 9);
        return x;
    }

    private static void about() {
        SlipStore x = withNodes(0, 99, 0, 0, 0, -99);
        x.link(0, 2, 7);
        x.sets(0, 4);
        x.sets(1, 3);
        x.ticks(4);
        // fills: 4 6 8 6(lost)
        int[] due = {0, 2, 7, 1, 6, 1, 0, 4, 8, 1};
        for (int what = 0; what < due.length; what++) {
            due("about " + what, x.about(0, what), due[what]);
        }
        due("about what", x.about(0, 10), BAD);
        due("about what low", x.about(0, -1), BAD);
        due("about link", x.about(1, 0), BAD);
        due("about link low", x.about(-1, 0), BAD);
        due("about told", x.told(0), 4);
    }

    private static void till() {
        SlipStore x = withNodes(0, 99, 0, -99, 0, 0, 0, 1, 0, 2);
        x.link(0, 1, 0);
        x.link(1, 0, 0);
        x.link(0, 2, 0);
        x.link(2, 3, 0);
        x.link(4, 2, 0);
        x.sets(0, 4);
        due("till lost", x.till(0), 4);
        due("till repeated", x.till(1), 4);
        // a bit more in each TICK but the first: 8 behind the fifth, 9 behind the sixth
        due("till half as fast", x.till(2), 6);
        // a bit less in each hundredth TICK: 0 behind the 400th, -1 behind the 500th
        due("till slow", x.till(3), 500);
        x.ticks(200);
        due("till slow then", x.till(3), 300);
        due("till changes nothing", x.count(9), 200);
        x.sets(0, 19);
        // a bit in each fiftieth TICK: 20 of them, behind the 1000th, for more than 38
        due("till just not", x.till(4), NONE);
        x.ticks(50);
        due("till just", x.till(4), 950);
        x.sets(0, 20);
        due("till frame anew", x.till(4), NONE);
        due("till link", x.till(5), BAD);
        due("till low", x.till(-1), BAD);
        due("till told", x.told(0), 2);
        SlipStore y = withNodes(0, 1, 0, 0);
        y.link(0, 1, 0);
        y.sets(0, 9);
        y.ticks(1);
        // 10 bits are needed, one in each hundredth TICK, one TICK is gone
        due("till most", y.till(0), 999);
        y.back();
        due("till one too many", y.till(0), NONE);
        y.turns(0);
        y.ticks(1);
        due("till though down", y.till(0), 999);
        SlipStore z = withNodes(0, 50, 9, 0, 9, 0);
        z.link(0, 1, 0);
        z.link(1, 2, 0);
        z.link(2, 1, 0);
        z.sets(0, 4);
        z.looks(1);
        // node 1 has the RATE 50 of node 0: 5 bits, one in every second TICK
        due("till by the rate followed", z.till(0), NONE);
        due("till written by the rate followed", z.till(1), 10);
        due("till read by the rate followed", z.till(2), 10);
    }

    private static void count() {
        SlipStore x = withRing();
        x.sets(0, 4);
        x.sets(1, 77);
        x.ticks(50);
        // every node has the RATE 10 of node 0: nothing wanders
        int[] due = {4, 77, 9, 4, 4, 3, 3, 0, 0, 50};
        for (int what = 0; what < due.length; what++) {
            due("count " + what, x.count(what), due[what]);
        }
        x.owns(0, 0, 99);
        x.node(9, -99);
        x.link(4, 0, 0);
        x.ticks(3);
        // link 0 wrote 8 9 9 and is read by 8 8 9: 5; link 4 writes 8 7 7 and is read by 8 9 9: 0
        due("count fill", x.about(4, 4), 0);
        x.ticks(2);
        due("count lost", x.count(7), 0);
        due("count repeated", x.count(8), 1);
        due("count what", x.count(10), BAD);
        due("count what low", x.count(-1), BAD);
        due("count told", x.told(0), 2);
    }

    private static void typeAndClear() {
        SlipStore x = new SlipStore();
        due("type least", x.type(0), 1);
        due("type most", x.type(127), 2);
        due("type low", x.type(-1), BAD);
        due("type high", x.type(128), BAD);
        for (int n = 3; n <= 120; n++) {
            due("type " + n, x.type(32), n);
        }
        due("type full", x.type(32), FULL);
        due("type full and wrong", x.type(128), BAD);
        due("type bytes", x.told(3), 120);
        due("type told BAD", x.told(0), 3);
        due("type told FULL", x.told(2), 1);
        due("type no state", x.told(4), 0);
        due("clear", x.clear(), 120);
        due("clear again", x.clear(), 0);
        due("clear no state", x.told(4), 0);
        due("type anew", x.type(59), 1);
    }

    private static void does() {
        SlipStore x = new SlipStore();
        due("does all", does(x, " n0-99;n 9 99 ;l0 1 3;u0;o 1 007-0;s0 4;s1 0;k60;t200;"), 9);
        due("does text stays", x.told(3), 54);
        due("does one state", x.told(4), 1);
        due("does node", x.of(0, 5), -99);
        due("does link", x.about(0, 2), 3);
        due("does turn", x.about(0, 3), 0);
        due("does own", x.of(1, 4), 7);
        due("does own rate", x.of(1, 5), 0);
        due("does set", x.count(0), 4);
        due("does ticks", x.count(9), 200);
        due("does back", x.back(), 0);
        due("does back all", x.count(3), 0);
        due("does again", x.does(), 9);
        due("does refused", does(x, "n1 1;t5;u1;n1 1;"), -2002);
        due("does refused, nothing done", x.count(3), 2);
        due("does refused, no tick", x.count(9), 200);
        due("does refused, no state", x.told(4), 1);
        due("does refused, nothing counts", x.told(0), 0);
        due("does full", does(x, "n1 1;n1 1;n1 1;n1 1;n1 1;"), -2004);
        due("does full, nothing counts", x.told(2), 0);
        due("does full, nothing done", x.count(3), 2);
        String[] refused = {"n10 0;", "n0 100;", "n0-100;", "l0 0 0;", "l0 1 10;", "l0 2 0;", "o2 0 0;",
            "o0 10 0;", "o0 0 100;", "u1;", "s3 1;", "s0 3;", "s1 129;", "s2 0;", "k0;", "k61;", "t0;", "t201;"};
        for (String text : refused) {
            due("does " + text, does(x, text), -2000);
        }
        due("does refused still no state", x.told(4), 1);
        StringBuilder most = new StringBuilder();
        for (int n = 0; n < 40; n++) {
            most.append("u0;");
        }
        due("does most", does(x, most.toString()), 40);
        due("does turned evenly", x.about(0, 3), 0);
        due("does most states", x.told(4), 2);
        due("does uses what came ahead", does(x, "n9 0;l0 2 0;k1;"), 3);
        due("does looked", x.of(2, 3), 1);
        for (int n = 0; n < 5; n++) {
            does(x, "k1;");
        }
        due("does states most", x.told(4), 5);
    }

    private static void faults() {
        SlipStore x = withNodes(0, 0, 0, 0);
        x.link(0, 1, 0);
        int states = x.told(4);
        Object[][] rows = {
            {"", 0}, {" ", 1}, {"   ", 3}, {";", 0}, {"x", 0}, {"N", 0}, {"c0;", 0}, {"0", 0}, {"-", 0},
            {"u", 1}, {"u ", 2}, {"u;", 1}, {"u0", 2}, {"u0 ", 3}, {"u0;;", 3}, {"u0; ;", 4}, {"u0;x", 3},
            {"u0;u", 4}, {"u-0;", 1}, {"u 0 0;", 4}, {"u0000;", 4}, {"uu0;", 1}, {"u0u0;", 2}, {"u0,", 2},
            {"n1;", 2}, {"n1 ;", 3}, {"n-1 1;", 1}, {"n1-", 3}, {"n1- 1;", 3}, {"n1--1;", 3}, {"n1-;", 3},
            {"n1 1 1;", 5}, {"n1-1-1;", 4}, {"n1 1-1;", 4}, {"n1-1000;", 6}, {"n1-1 1;", 5}, {"n1111;", 4},
            {"l0 1;", 4}, {"l0 1-1;", 4}, {"l0 1 1 1;", 7}, {"o0 0 - 1;", 6}, {"o0-1 1;", 2}, {"o0 0;", 4},
            {"s0-4;", 2}, {"s1 4 4;", 5}, {"k-1;", 1}, {"t-1;", 1}, {"t1 0;", 3}, {"t+1;", 1}, {"u0:", 2},
            {"u/;", 1}, {"n9 9;u9;x", 8}, {"n9 9;\n", 5}, {"\u0000", 0}, {"u0;\t", 3}, {"t1\u007f", 2},
        };
        for (Object[] row : rows) {
            due("fault of '" + row[0] + "'", does(x, (String) row[0]), -10 - (Integer) row[1]);
        }
        StringBuilder blanks = new StringBuilder();
        for (int n = 0; n < 118; n++) {
            blanks.append(' ');
        }
        due("fault at the end of the longest", does(x, blanks + "u0"), -130);
        due("fault nothing done", x.count(3), 2);
        due("fault no state", x.told(4), states);
        due("fault nothing counts", x.told(0) + x.told(1) + x.told(2), 0);
        String[] fine = {"u0;", " u 0 ; ", "u000;", "n1-1;", "n1 -1;", "n 1 1 ;", "o0 0-0;", "s0 004;", "k 1;"};
        for (String text : fine) {
            due("no fault of '" + text + "'", does(x, text), 1);
        }
        due("no fault of two", does(x, "u0;  u0;  "), 2);
    }

    private static void back() {
        SlipStore x = new SlipStore();
        x.type(110);
        x.node(1, 1);
        x.node(-1, 1);
        x.node(2, 2);
        x.link(0, 1, 0);
        x.looks(1);
        x.ticks(3);
        x.sets(1, 9);
        x.turns(0);
        long here = x.digest();
        due("states", x.told(4), 5);
        x.owns(0, 5, 5);
        due("back owns", x.back(), 4);
        due("back own quality", x.of(0, 4), 1);
        due("back leaves the text", x.told(3), 1);
        due("back leaves refusals", x.told(0), 1);
        due("back turns", x.back(), 3);
        due("back up", x.about(0, 3), 1);
        due("back sets", x.back(), 2);
        due("back mask", x.count(1), 8);
        due("back ticks", x.back(), 1);
        due("back tick count", x.count(9), 0);
        due("back sum", x.of(0, 6), 0);
        due("back looks", x.back(), 0);
        due("back reference", x.of(1, 3), NONE);
        due("back no more", x.back(), NO);
        due("back told", x.told(1), 1);
        due("back nodes stay", x.count(3), 2);
        x.turns(0);
        due("back then on", x.back(), 0);
        check.holds("digest is other by now", x.digest() != here);
        x.looks(1);
        x.looks(1);
        due("a state though nothing is other", x.told(4), 2);
        x.clears(0);
        due("clears leaves a state", x.told(4), 3);
        x.turns(5);
        due("refused leaves none", x.told(4), 3);
        for (int mask = 20; mask < 33; mask++) {
            x.sets(1, mask);
        }
        x.settles();
        for (int left = 4; left >= 0; left--) {
            due("back to the newest five", x.back(), left);
            x.settles();
            due("back mask of the newest five", x.count(1), 27 + left);
        }
        due("back older ones are lost", x.back(), NO);
    }

    private static void told() {
        SlipStore x = new SlipStore();
        x.node(-1, 0);
        x.back();
        x.back();
        for (int i = 0; i < 9; i++) {
            x.node(0, 0);
        }
        x.type(1);
        x.type(1);
        x.type(1);
        x.type(1);
        int[] due = {1, 2, 3, 4, 5};
        for (int what = 0; what < due.length; what++) {
            due("told " + what, x.told(what), due[what]);
        }
        due("told what", x.told(5), BAD);
        due("told what low", x.told(-1), BAD);
        due("told counts itself", x.told(0), 3);
    }

    private static void digest() {
        SlipStore x = withRing();
        x.ticks(7);
        x.back();
        x.back();
        x.node(-1, 0);
        x.type(110);
        for (int n = 0; n < 2; n++) {
            due("digest", x.digest(), digestOf(x));
            x.back();
        }
        long h = 2792;
        long[] rows = {0, 0, 0, 0, 0, 16, 8, 5, 0, 0, 0, 0, 0, 0, 0, 0};
        for (long v : rows) {
            h = 31 * h + v;
        }
        due("digest of a new one", new SlipStore().digest(), h);
        long once = x.digest();
        due("digest changes nothing", x.digest(), once);
        due("digest of another", slowToSettle().digest(), digestOf(slowToSettle()));
    }

    private static long digestOf(SlipStore x) {
        long h = 2792;
        for (int what = 0; what <= 4; what++) {
            h = 31 * h + x.told(what);
        }
        for (int what = 0; what <= 9; what++) {
            h = 31 * h + x.count(what);
        }
        for (int i = 0; i < x.count(3); i++) {
            for (int what = 0; what <= 7; what++) {
                h = 31 * h + x.of(i, what);
            }
            h = 31 * h + x.ring(i);
        }
        for (int i = 0; i < x.count(4); i++) {
            for (int what = 0; what <= 9; what++) {
                h = 31 * h + x.about(i, what);
            }
            h = 31 * h + x.offers(i, 0);
        }
        return 31 * h + x.settles();
    }

    /** As many NODES and LINKS as can be: node 0 follows, and goes round with 1 and 2. */
    private static void fullHouse() {
        SlipStore x = withNodes(9, 0, 9, 0, 9, 0, 0, 99, 9, -99, 9, 0);
        x.link(3, 0, 0);
        x.link(0, 1, 0);
        x.link(1, 2, 0);
        x.link(2, 0, 1);
        for (int i = 4; i < 9; i++) {
            x.link(3, 4, i);
        }
        x.link(4, 5, 9);
        x.sets(0, 4);
        for (int i = 4; i < 9; i++) {
            x.turns(i);
        }
        due("full house tick", x.ticks(4), 5);
        // link 0 has 4 5 6 7; links 4 to 8 have 4 6 8 6; link 9 has 4 3 2 1
        due("full house fill first", x.about(0, 4), 7);
        due("full house fill last", x.about(9, 4), 1);
        due("full house ticks", x.ticks(2), 7);
        // link 0 has 8 5; links 4 to 8 have 8 6; link 9 has 0 3
        due("full house lost", x.count(7), 11);
        due("full house repeated", x.count(8), 1);
        due("full house looks", x.looks(3), 3);
        x.turns(0);
        due("full house ring of node 0", x.looks(1), 3);
        due("full house reference of node 0", x.of(0, 3), 3);
        due("full house rings", x.count(6), 3);
        due("full house digest", x.digest(), digestOf(x));
        due("full house would", x.would(5), NONE);
        due("full house sets", x.sets(0, 5), 4);
        due("full house last fill anew", x.about(9, 4), 5);
        due("full house back", x.back(), 4);
        due("full house last fill again", x.about(9, 4), 3);
        x.ticks(200);
        due("full house digest then", x.digest(), digestOf(x));
    }

    /** Numbers far out are refused in every place, and leave nothing but the count. */
    private static void wrongNumbers() {
        SlipStore x = withRing();
        x.ticks(9);
        int states = x.told(4), ticks = x.count(9);
        int asked = 0;
        for (int w : FAR) {
            int[] answers = {
                x.node(w, 0), x.node(0, w), x.link(w, 0, 0), x.link(0, w, 0), x.link(0, 1, w), x.owns(w, 0, 0),
                x.owns(0, w, 0), x.owns(0, 0, w), x.turns(w), x.sets(w, 5), x.sets(0, w), x.sets(1, w),
                x.sets(2, w), x.clears(w), x.looks(w), x.ticks(w), x.of(w, 0), x.of(0, w), x.offers(w, 0),
                x.offers(0, w), x.would(w), x.chain(w, 0), x.ring(w), x.about(w, 0), x.about(0, w), x.till(w),
                x.count(w), x.type(w), x.told(w),
            };
            for (int k = 0; k < answers.length; k++) {
                due("far number " + w + " in call " + k, answers[k], BAD);
            }
            asked += answers.length;
        }
        due("far numbers counted", x.told(0), asked);
        due("far numbers leave the states", x.told(4), states);
        due("far numbers leave the ticks", x.count(9), ticks);
    }
}
