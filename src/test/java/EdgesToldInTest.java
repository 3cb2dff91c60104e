/** The boundary cases of promises 1 to 9: a new object, and the calls by which something is told in. */
public final class EdgesToldInTest {
    private static final int NONE = Edge.NONE, BAD = Edge.BAD, NO = Edge.NO, FULL = Edge.FULL;
    private static final int LEAST = Edge.LEAST, MOST = Edge.MOST;

    public static void main(String[] args) {
        newObject();
        nodeBad();
        nodeFull();
        linkNew();
        linkBad();
        linkFull();
        ownsBad();
        ownsHowMany();
        ownsAsAtFirst();
        turnsUpAndDown();
        turnsBad();
        setsWhatItWas();
        setsBad();
        clearsTogether();
        clearsBad();
        looksOneByOne();
        looksBad();
        ticksByThem();
        ticksBad();
        Edge.end();
    }

    private static void newObject() {
        Edge.sentence("Promise 1: A new object", "As told; no NODES.");
        SlipStore x = new SlipStore();
        Edge.row("count", x::count, 16, 8, 5, 0, 0, 0, 0, 0, 0, 0);
        Edge.row("told", x::told, 0, 0, 0, 0, 0);
        Edge.due("settles", x.settles(), 0);
        Edge.due("clear", x.clear(), 0);
        Edge.due("does", x.does(), -10);
        Edge.due("looks, the most", x.looks(60), 0);
        Edge.due("ticks, the most", x.ticks(200), 0);
        Edge.due("TICKS without NODES", x.count(9), 200);
        Edge.refused("of", SlipStore::new, y -> y.of(0, 0), BAD);
        Edge.refused("would", SlipStore::new, y -> y.would(0), BAD);
        Edge.refused("chain", SlipStore::new, y -> y.chain(0, 0), BAD);
        Edge.refused("ring", SlipStore::new, y -> y.ring(0), BAD);
        Edge.refused("owns", SlipStore::new, y -> y.owns(0, 0, 0), BAD);
        Edge.refused("link", SlipStore::new, y -> y.link(0, 1, 0), BAD);
        Edge.refused("turns", SlipStore::new, y -> y.turns(0), BAD);
        Edge.refused("clears", SlipStore::new, y -> y.clears(0), BAD);
        Edge.refused("offers", SlipStore::new, y -> y.offers(0, 0), BAD);
        Edge.refused("about", SlipStore::new, y -> y.about(0, 0), BAD);
        Edge.refused("till", SlipStore::new, y -> y.till(0), BAD);
        Edge.refused("back", SlipStore::new, SlipStore::back, NO);
    }

    private static void nodeBad() {
        Edge.sentence("Promise 2: node", "A new NODE: its number. S. BAD; FULL: 6.");
        int[][] fine = {{0, -99}, {0, 99}, {9, -99}, {9, 99}};
        SlipStore x = new SlipStore();
        for (int n = 0; n < fine.length; n++) {
            int i = n, q = fine[n][0], r = fine[n][1];
            Edge.due("node(" + q + ", " + r + ")", x.node(q, r), i);
            Edge.row("of " + i, what -> x.of(i, what), q, 0, r, NONE, q, r, 0, 0);
        }
        Edge.refusedOutside("q", Edge::rich, 0, 9, (y, w) -> y.node(w, 0));
        Edge.refusedOutside("r", Edge::rich, -99, 99, (y, w) -> y.node(0, w));
        Edge.refusedOutside("q, nothing being there", SlipStore::new, 0, 9, (y, w) -> y.node(w, 0));
        Edge.refused("both", Edge::rich, y -> y.node(-1, 100), BAD);
    }

    private static void nodeFull() {
        Edge.sentence("Promise 2: node", "FULL: 6.");
        SlipStore five = Edge.nodes(1, 0, 1, 0, 1, 0, 1, 0, 1, 0);
        Edge.due("the sixth", five.node(0, 0), 5);
        Edge.due("STATES behind the sixth", five.told(4), 5);
        Edge.refused("the seventh", Edge::withAllNodes, x -> x.node(0, 0), FULL);
        Edge.refused("BAD ahead of FULL, q", Edge::withAllNodes, x -> x.node(10, 0), BAD);
        Edge.refused("BAD ahead of FULL, q below", Edge::withAllNodes, x -> x.node(-1, 0), BAD);
        Edge.refused("BAD ahead of FULL, r", Edge::withAllNodes, x -> x.node(0, 100), BAD);
        Edge.refused("BAD ahead of FULL, r below", Edge::withAllNodes, x -> x.node(0, -100), BAD);
    }

    private static void linkNew() {
        Edge.sentence("Promise 3: link", "A new LINK from NODE a to NODE b, RANK k, FILL f: its number.");
        for (int f : new int[] {4, 16, 64}) {
            SlipStore x = Edge.withAllNodes();
            x.sets(0, f);
            Edge.due("first to last", x.link(0, 5, 0), 0);
            Edge.row("about it", what -> x.about(0, what), 0, 5, 0, 1, f, 0, 0, f, f, 0);
            x.ticks(200);
            Edge.due("last to first, behind TICKS", x.link(5, 0, 9), 1);
            Edge.row("about it, behind TICKS", what -> x.about(1, what), 5, 0, 9, 1, f, 0, 0, f, f, 0);
            Edge.due("one like another", x.link(5, 0, 9), 2);
        }
    }

    private static void linkBad() {
        Edge.sentence("Promise 3: link", "BAD: alike, too");
        Edge.refusedOutside("a", Edge::rich, 0, 4, (x, w) -> x.link(w, 1, 0));
        Edge.refusedOutside("b", Edge::rich, 0, 4, (x, w) -> x.link(1, w, 0));
        Edge.refusedOutside("k", Edge::rich, 0, 9, (x, w) -> x.link(0, 1, w));
        for (int i : new int[] {0, 4, 5, -1, LEAST, MOST}) {
            Edge.refused("alike " + i, Edge::rich, x -> x.link(i, i, 0), BAD);
        }
        Edge.refused("one NODE alone", () -> Edge.nodes(1, 1), x -> x.link(0, 1, 0), BAD);
        Edge.due("the last NODE", Edge.rich().link(4, 0, 9), 5);
        Edge.due("to the last NODE", Edge.rich().link(0, 4, 0), 5);
    }

    private static void linkFull() {
        Edge.sentence("Promise 3: link", "FULL: 10.");
        Edge.refused("the eleventh", Edge::withAllLinks, x -> x.link(0, 1, 0), FULL);
        Edge.refused("the eleventh, the other way", Edge::withAllLinks, x -> x.link(1, 0, 9), FULL);
        Edge.refused("BAD ahead of FULL, a", Edge::withAllLinks, x -> x.link(2, 1, 0), BAD);
        Edge.refused("BAD ahead of FULL, b", Edge::withAllLinks, x -> x.link(0, 2, 0), BAD);
        Edge.refused("BAD ahead of FULL, k", Edge::withAllLinks, x -> x.link(0, 1, 10), BAD);
        Edge.refused("BAD ahead of FULL, alike", Edge::withAllLinks, x -> x.link(1, 1, 0), BAD);
    }

    private static void ownsBad() {
        Edge.sentence("Promise 4: owns", "S. BAD.");
        Edge.refusedOutside("i", Edge::rich, 0, 4, (x, w) -> x.owns(w, 0, 0));
        Edge.refusedOutside("q", Edge::rich, 0, 9, (x, w) -> x.owns(1, w, 0));
        Edge.refusedOutside("r", Edge::rich, -99, 99, (x, w) -> x.owns(1, 0, w));
        int[][] fine = {{0, -99}, {0, 99}, {9, -99}, {9, 99}};
        for (int[] own : fine) {
            SlipStore x = Edge.rich();
            Edge.due("the last NODE", x.owns(4, own[0], own[1]), 0);
            Edge.row("of it", what -> x.of(4, what), own[0], 0, own[1], NONE, own[0], own[1], 0, 0);
        }
    }

    private static void ownsHowMany() {
        Edge.sentence("Promise 4: owns", "how many LINKS have it as REFERENCE at the other end");
        SlipStore x = Edge.nodes(5, 0, 5, 0, 5, 0, 1, 0, 5, 0, 5, 0);
        Edge.due("without LINKS", x.owns(3, 1, 0), 0);
        for (int i = 0; i < 6; i++) {
            if (i != 3) {
                x.link(3, i, 0);
                x.link(3, i, 0);
            }
        }
        Edge.due("none ahead of a LOOK", x.owns(3, 1, 0), 0);
        x.looks(1);
        Edge.due("all five, of ten LINKS", x.owns(3, 1, 0), 5);
        x.turns(0);
        Edge.due("one that is DOWN but REFERENCE yet", x.owns(3, 1, 0), 5);
        Edge.due("the LINK to it does not count", x.owns(0, 5, 0), 0);
        Edge.due("one less", x.owns(3, 1, 0), 4);
    }

    private static void ownsAsAtFirst() {
        Edge.sentence("Promise 4: owns", "it is as at first (SUM, its bits, too)");
        SlipStore x = Edge.store(4, 99, -99);
        x.ticks(200);
        x.ticks(1);
        Edge.row("ahead of it", what -> x.of(0, what), 0, 0, 99, NONE, 0, 99, 99, 8);
        int fill = x.about(0, 4), lost = x.about(0, 5);
        x.owns(0, 0, 99);
        Edge.row("behind it, all alike", what -> x.of(0, what), 0, 0, 99, NONE, 0, 99, 0, 0);
        Edge.row("the other", what -> x.of(1, what), 0, 0, -99, NONE, 0, -99, -99, 8);
        Edge.due("its LINK's FILL", x.about(0, 4), fill);
        Edge.due("its LINK's LOST", x.about(0, 5), lost);
    }

    private static void turnsUpAndDown() {
        Edge.sentence("Promise 5: turns", "LINK i is UP, if it was DOWN, else DOWN: 1 UP, 0.");
        SlipStore x = Edge.withAllLinks();
        for (int i : new int[] {0, 9}) {
            Edge.due("DOWN " + i, x.turns(i), 0);
            Edge.due("told DOWN " + i, x.about(i, 3), 0);
            Edge.due("UP " + i, x.turns(i), 1);
            Edge.due("told UP " + i, x.about(i, 3), 1);
            Edge.due("DOWN again " + i, x.turns(i), 0);
        }
        Edge.row("no other", i -> x.about(i, 3), 0, 1, 1, 1, 1, 1, 1, 1, 1, 0);
    }

    private static void turnsBad() {
        Edge.sentence("Promise 5: turns", "S. BAD.");
        Edge.refusedOutside("i", Edge::rich, 0, 4, (x, w) -> x.turns(w));
        Edge.refusedOutside("i of all that can be", Edge::withAllLinks, 0, 9, (x, w) -> x.turns(w));
        Edge.due("the last", Edge.rich().turns(4), 1);
    }

    private static void setsWhatItWas() {
        Edge.sentence("Promise 6: sets", "SETTING k becomes v: what it was.");
        int[][] bounds = {{0, 4, 64, 16}, {1, 0, 128, 8}, {2, 1, 9, 5}};
        for (int[] b : bounds) {
            SlipStore x = new SlipStore();
            Edge.due("least of " + b[0], x.sets(b[0], b[1]), b[3]);
            Edge.due("least again of " + b[0], x.sets(b[0], b[1]), b[1]);
            Edge.due("most of " + b[0], x.sets(b[0], b[2]), b[1]);
            Edge.due("told " + b[0], x.count(b[0]), b[2]);
            for (int[] other : bounds) {
                if (other != b) {
                    Edge.due("not " + other[0], x.count(other[0]), other[3]);
                }
            }
            Edge.due("STATES of " + b[0], x.told(4), 3);
        }
    }

    private static void setsBad() {
        Edge.sentence("Promise 6: sets", "S. BAD.");
        Edge.refusedOutside("k", Edge::rich, 0, 2, (x, w) -> x.sets(w, 5));
        Edge.refusedOutside("FRAME", Edge::rich, 4, 64, (x, w) -> x.sets(0, w));
        Edge.refusedOutside("MASK", Edge::rich, 0, 128, (x, w) -> x.sets(1, w));
        Edge.refusedOutside("HOPS", Edge::rich, 1, 9, (x, w) -> x.sets(2, w));
        Edge.refused("the least MASK is no FRAME", Edge::rich, x -> x.sets(0, 0), BAD);
        Edge.refused("the most FRAME is no HOPS", Edge::rich, x -> x.sets(2, 64), BAD);
    }

    private static void clearsTogether() {
        Edge.sentence("Promise 7: clears",
            "LOW, HIGH of LINK i become its FILL, its counts 0: frames LOST and REPEATED as they were, together.");
        SlipStore x = Edge.store(4, 99, -99);
        x.link(1, 0, 0);
        x.sets(1, 0);
        x.ticks(4);
        x.owns(0, 0, -99);
        x.owns(1, 0, 99);
        x.ticks(9);
        // link 0 had 4 6 8 6 (lost); then 6 4 2 0 2 0 2 0 2, each second 2 by a frame that is repeated
        Edge.row("ahead of it", k -> x.about(0, k + 4), 2, 1, 3, 0, 8, 11);
        Edge.due("together", x.clears(0), 4);
        Edge.row("behind it", k -> x.about(0, k + 4), 2, 0, 0, 2, 2, 0);
        Edge.row("the other", k -> x.about(1, k + 4), 6, 3, 1, 0, 8, 11);
        Edge.due("none", x.clears(0), 0);
        Edge.due("a STATE though nothing is other", x.told(4), 5);
        SlipStore fresh = Edge.store(64, 0, 0);
        Edge.due("a new one", fresh.clears(0), 0);
        Edge.row("about a new one", k -> fresh.about(0, k + 4), 64, 0, 0, 64, 64, 0);
    }

    private static void clearsBad() {
        Edge.sentence("Promise 7: clears", "S. BAD.");
        Edge.refusedOutside("i", Edge::rich, 0, 4, (x, w) -> x.clears(w));
        Edge.refusedOutside("i of all that can be", Edge::withAllLinks, 0, 9, (x, w) -> x.clears(w));
    }

    private static void looksOneByOne() {
        Edge.sentence("Promise 8: looks", "n LOOKS (1 .. 60), one by one: how many NODES have a REFERENCE then.");
        SlipStore x = Edge.sixInARow();
        Edge.due("the most NODES", x.looks(1), 5);
        Edge.due("the most LOOKS", x.looks(60), 5);
        x.owns(0, 5, 0);
        Edge.row("one by one", n -> x.looks(1), 4, 3, 2, 1, 0, 0);
        SlipStore y = Edge.sixInARow();
        y.owns(0, 5, 0);
        Edge.due("four at once", y.looks(4), 1);
        SlipStore first = Edge.nodes(9, 0, 0, 0);
        first.link(1, 0, 0);
        Edge.due("NODE 0 alone", first.looks(1), 1);
        SlipStore last = Edge.nodes(9, 0, 9, 0, 9, 0, 9, 0, 0, 0, 9, 0);
        last.link(4, 5, 0);
        Edge.due("NODE 5 alone", last.looks(1), 1);
        SlipStore none = new SlipStore();
        Edge.due("no NODES", none.looks(60), 0);
        Edge.due("a STATE though nothing is other", none.told(4), 1);
    }

    private static void looksBad() {
        Edge.sentence("Promise 8: looks", "n LOOKS (1 .. 60)");
        Edge.due("the least", Edge.sixInARow().looks(1), 5);
        Edge.due("the most", Edge.sixInARow().looks(60), 5);
        Edge.refusedOutside("n", Edge::rich, 1, 60, (x, w) -> x.looks(w));
        Edge.refused("n below 0", Edge::rich, x -> x.looks(-1), BAD);
    }

    private static void ticksByThem() {
        Edge.sentence("Promise 9: ticks",
            "n TICKS (1 .. 200), one by one: frames LOST and REPEATED by them, together.");
        SlipStore x = Edge.store(4, 99, -99);
        x.link(1, 0, 0);
        // 4 6 8, then 6 8 over and over, but for each hundredth TICK, which moves nothing
        Edge.row("one by one", n -> x.ticks(1), 0, 0, 0, 2, 0, 2, 0, 2);
        int before = x.count(7) + x.count(8);
        int by = x.ticks(200);
        Edge.due("by them alone", x.count(7) + x.count(8) - before, by);
        Edge.due("the most", by, 2 * 99);
        Edge.due("TICKS so far", x.count(9), 208);
        x.clears(0);
        x.clears(1);
        Edge.due("none of those ahead", x.ticks(1), 0);
        Edge.due("the next", x.ticks(1), 2);
    }

    private static void ticksBad() {
        Edge.sentence("Promise 9: ticks", "n TICKS (1 .. 200)");
        SlipStore x = Edge.rich();
        int so = x.count(9);
        x.ticks(1);
        Edge.due("the least", x.count(9), so + 1);
        x.ticks(200);
        Edge.due("the most", x.count(9), so + 201);
        Edge.refusedOutside("n", Edge::rich, 1, 200, (y, w) -> y.ticks(w));
        Edge.refused("n below 0", Edge::rich, y -> y.ticks(-1), BAD);
    }
}
