/** The boundary cases of promises 10 to 15: what can be asked of nodes. */
public final class EdgesOfNodesTest {
    private static final int NONE = Edge.NONE, BAD = Edge.BAD, LEAST = Edge.LEAST, MOST = Edge.MOST;

    public static void main(String[] args) {
        ofWhat();
        ofReference();
        ofBits();
        ofBad();
        offersWhat();
        offersNothing();
        offersBad();
        wouldNone();
        wouldBad();
        chainOfOne();
        chainNotSoMany();
        chainOfARing();
        chainBad();
        ringOrNot();
        ringBad();
        settlesAtOnce();
        settlesAnyMore();
        settlesTheMost();
        Edge.end();
    }

    private static void ofWhat() {
        Edge.sentence("Promise 10: of", "QUALITY (what 0), HOPS (1), RATE (2)");
        SlipStore x = Edge.sixInARow();
        x.ticks(1);
        Edge.row("of the first", what -> x.of(0, what), 0, 0, 60, NONE, 0, 60, 60, 8, BAD);
        Edge.row("of the last", what -> x.of(5, what), 0, 5, 60, 4, 5, 5, 60, 8, BAD);
        SlipStore most = Edge.ring();
        most.looks(5);
        Edge.due("the most HOPS", most.of(3, 1), 9);
    }

    private static void ofReference() {
        Edge.sentence("Promise 10: of", "REFERENCE (3; NONE)");
        SlipStore x = Edge.nodes(0, 0, 9, 0);
        for (int i = 0; i < 10; i++) {
            x.link(0, 1, 9 - i);
        }
        Edge.due("none ahead of a LOOK", x.of(1, 3), NONE);
        x.looks(1);
        Edge.due("the last LINK", x.of(1, 3), 9);
        Edge.due("none", x.of(0, 3), NONE);
        for (int i = 1; i < 10; i++) {
            x.turns(i);
        }
        Edge.due("still", x.of(1, 3), 9);
        x.looks(1);
        Edge.due("the first LINK", x.of(1, 3), 0);
        x.turns(0);
        x.looks(1);
        Edge.due("none again", x.of(1, 3), NONE);
    }

    private static void ofBits() {
        Edge.sentence("Promise 10: of", "bits of the last TICK (7; 0 if there was none)");
        SlipStore x = Edge.nodes(0, 99, 0, -99, 0, 0);
        Edge.row("none", i -> x.of(i, 7), 0, 0, 0);
        x.ticks(1);
        Edge.row("one", i -> x.of(i, 7), 8, 8, 8);
        x.ticks(1);
        Edge.row("two", i -> x.of(i, 7), 9, 7, 8);
        x.node(1, 1);
        Edge.due("none of a new NODE", x.of(3, 7), 0);
        x.looks(1);
        x.sets(0, 4);
        Edge.due("the last still", x.of(0, 7), 9);
        x.owns(0, 0, 99);
        Edge.due("none since it was told anew", x.of(0, 7), 0);
    }

    private static void ofBad() {
        Edge.sentence("Promise 10: of", "BAD.");
        Edge.refusedOutside("i", Edge::rich, 0, 4, (x, w) -> x.of(w, 0));
        Edge.refusedOutside("what", Edge::rich, 0, 7, (x, w) -> x.of(0, w));
        Edge.refusedOutside("i of all that can be", Edge::withAllNodes, 0, 5, (x, w) -> x.of(w, 7));
        Edge.refused("both", Edge::rich, x -> x.of(5, 8), BAD);
    }

    private static void offersWhat() {
        Edge.sentence("Promise 11: offers", "QUALITY (what 0), HOPS (1), RATE (2)");
        SlipStore x = Edge.nodes(0, -99, 9, 99);
        x.link(0, 1, 0);
        x.link(1, 0, 0);
        Edge.row("of the best", what -> x.offers(0, what), 0, 1, -99, BAD);
        Edge.row("of the worst", what -> x.offers(1, what), 9, 1, 99, BAD);
        SlipStore most = Edge.ring();
        most.looks(4);
        Edge.row("the most HOPS", what -> most.offers(2, what), 0, 9, 10);
    }

    private static void offersNothing() {
        Edge.sentence("Promise 11: offers", "NONE: nothing.");
        SlipStore down = Edge.nodes(0, 0, 9, 0);
        down.link(0, 1, 0);
        down.turns(0);
        Edge.row("DOWN", what -> down.offers(0, what), NONE, NONE, NONE);
        SlipStore back = Edge.nodes(0, 0, 9, 0);
        back.link(0, 1, 0);
        back.link(1, 0, 0);
        back.looks(1);
        Edge.row("back", what -> back.offers(1, what), NONE, NONE, NONE);
        SlipStore hops = Edge.sixInARow();
        hops.sets(2, 4);
        Edge.row("as many HOPS", what -> hops.offers(4, what), NONE, NONE, NONE);
        Edge.row("one less", what -> hops.offers(3, what), 0, 4, 60);
        Edge.due("none of these is refused", down.told(0) + back.told(0) + hops.told(0), 0);
    }

    private static void offersBad() {
        Edge.sentence("Promise 11: offers", "BAD.");
        Edge.refusedOutside("i", Edge::rich, 0, 4, (x, w) -> x.offers(w, 0));
        Edge.refusedOutside("what", Edge::rich, 0, 2, (x, w) -> x.offers(1, w));
        Edge.refusedOutside("what, where nothing is OFFERED", Edge::rich, 0, 2, (x, w) -> x.offers(0, w));
        Edge.refusedOutside("i of all that can be", Edge::withAllLinks, 0, 9, (x, w) -> x.offers(w, 2));
    }

    private static void wouldNone() {
        Edge.sentence("Promise 12: would", "The REFERENCE that NODE i would have behind one LOOK; NONE.");
        SlipStore x = Edge.sixInARow();
        Edge.row("as it is", x::would, NONE, 0, 1, 2, 3, 4);
        x.turns(0);
        Edge.row("behind one LOOK, not two", x::would, NONE, NONE, 1, 2, 3, 4);
        Edge.row("nothing is other", i -> x.of(i, 3), NONE, 0, 1, 2, 3, 4);
        Edge.due("no STATE", x.told(4), 5);
        SlipStore y = Edge.nodes(0, 0, 9, 0);
        for (int i = 0; i < 10; i++) {
            y.link(0, 1, 9 - i);
        }
        Edge.due("the last LINK", y.would(1), 9);
        Edge.due("without LINKS", Edge.nodes(9, 9).would(0), NONE);
    }

    private static void wouldBad() {
        Edge.sentence("Promise 12: would", "BAD.");
        Edge.refusedOutside("i", Edge::rich, 0, 4, (x, w) -> x.would(w));
        Edge.refusedOutside("i of all that can be", Edge::withAllNodes, 0, 5, (x, w) -> x.would(w));
    }

    private static void chainOfOne() {
        Edge.sentence("Promise 13: chain", "The k-th NODE of CHAIN of NODE i (0: it)");
        SlipStore x = Edge.withAllNodes();
        Edge.row("it", i -> x.chain(i, 0), 0, 1, 2, 3, 4, 5);
        Edge.row("no more", i -> x.chain(i, 1), NONE, NONE, NONE, NONE, NONE, NONE);
    }

    private static void chainNotSoMany() {
        Edge.sentence("Promise 13: chain", "NONE: not so many");
        SlipStore x = Edge.sixInARow();
        Edge.row("the longest", k -> x.chain(5, k), 5, 4, 3, 2, 1, 0, NONE, NONE);
        Edge.row("one less", k -> x.chain(4, k), 4, 3, 2, 1, 0, NONE, NONE);
        Edge.due("the greatest number", x.chain(5, MOST), NONE);
        Edge.due("the greatest but 31", x.chain(5, MOST - 31), NONE);
        Edge.due("32", x.chain(5, 32), NONE);
        Edge.due("none of these is refused", x.told(0), 0);
    }

    private static void chainOfARing() {
        Edge.sentence("Promise 13: chain", "(of a RING each once)");
        SlipStore x = Edge.ring();
        Edge.row("of 1", k -> x.chain(1, k), 1, 3, 2, NONE, NONE, NONE, NONE);
        Edge.row("of 2", k -> x.chain(2, k), 2, 1, 3, NONE, NONE, NONE, NONE);
        Edge.row("of 3", k -> x.chain(3, k), 3, 2, 1, NONE, NONE, NONE, NONE);
        Edge.row("of 4, behind it", k -> x.chain(4, k), 4, 3, 2, 1, NONE, NONE, NONE);
        Edge.row("of 0, which is alone", k -> x.chain(0, k), 0, NONE, NONE);
        SlipStore six = ringOfSix();
        Edge.row("of six", k -> six.chain(0, k), 0, 5, 4, 3, 2, 1, NONE, NONE);
    }

    /** NODE 0 was the best; told anew, it goes by the last, and the others still go by it. */
    private static SlipStore ringOfSix() {
        SlipStore x = Edge.nodes(0, 0, 9, 0, 9, 0, 9, 0, 9, 0, 9, 0);
        for (int i = 0; i < 6; i++) {
            x.link(i, (i + 1) % 6, 0);
        }
        x.looks(5);
        x.owns(0, 8, 0);
        x.sets(2, 9);
        x.looks(1);
        return x;
    }

    private static void chainBad() {
        Edge.sentence("Promise 13: chain", "BAD: k below 0, too.");
        Edge.refusedOutside("i", Edge::rich, 0, 4, (x, w) -> x.chain(w, 0));
        Edge.refused("k just below", Edge::rich, x -> x.chain(0, -1), BAD);
        Edge.refused("k far below", Edge::rich, x -> x.chain(0, LEAST), BAD);
        Edge.refused("both", Edge::rich, x -> x.chain(5, -1), BAD);
        Edge.refused("i, k being great", Edge::rich, x -> x.chain(5, MOST), BAD);
    }

    private static void ringOrNot() {
        Edge.sentence("Promise 14: ring", "1: the CHAIN of NODE i is a RING; 0.");
        SlipStore x = Edge.ring();
        Edge.row("three, and one behind", x::ring, 0, 1, 1, 1, 1);
        Edge.due("how many", x.count(6), 4);
        SlipStore row = Edge.sixInARow();
        Edge.row("six in a row", row::ring, 0, 0, 0, 0, 0, 0);
        SlipStore six = ringOfSix();
        Edge.row("six", six::ring, 1, 1, 1, 1, 1, 1);
        Edge.due("how many of six", six.count(6), 6);
        SlipStore two = Edge.nodes(0, 0, 5, 0, 5, 0);
        two.link(0, 1, 0);
        two.link(0, 2, 0);
        two.link(1, 2, 0);
        two.link(2, 1, 0);
        two.looks(1);
        two.turns(0);
        two.turns(1);
        two.looks(1);
        Edge.row("two, the least", two::ring, 0, 1, 1);
        Edge.row("of two, each once", k -> two.chain(1, k), 1, 2, NONE);
        two.looks(1);
        Edge.row("no more, for neither OFFERS back", two::ring, 0, 0, 0);
    }

    private static void ringBad() {
        Edge.sentence("Promise 14: ring", "BAD.");
        Edge.refusedOutside("i", Edge::rich, 0, 4, (x, w) -> x.ring(w));
        Edge.refusedOutside("i of all that can be", Edge::withAllNodes, 0, 5, (x, w) -> x.ring(w));
    }

    private static void settlesAtOnce() {
        Edge.sentence("Promise 15: settles", "After how many LOOKS from now (0 .. 30)");
        Edge.due("no NODES", new SlipStore().settles(), 0);
        Edge.due("no LINKS", Edge.withAllNodes().settles(), 0);
        SlipStore x = Edge.sixInARow();
        Edge.due("as it is", x.settles(), 0);
        x.back();
        Edge.due("the LOOKS taken back", x.settles(), 5);
        Edge.due("nothing is other", x.count(5), 0);
        Edge.due("no STATE", x.told(4), 4);
        x.looks(4);
        Edge.due("but one", x.settles(), 1);
    }

    private static void settlesAnyMore() {
        Edge.sentence("Promise 15: settles", "a LOOK would change nothing of any NODE any more");
        SlipStore rate = Edge.sixInARow();
        rate.owns(0, 0, -60);
        Edge.due("RATE alone", rate.settles(), 5);
        SlipStore reference = Edge.nodes(0, 0, 9, 0);
        reference.link(0, 1, 1);
        reference.looks(1);
        reference.link(0, 1, 0);
        Edge.due("REFERENCE alone", reference.settles(), 1);
        SlipStore quality = Edge.nodes(1, 0, 9, 0);
        quality.link(0, 1, 0);
        quality.looks(1);
        quality.owns(0, 0, 0);
        Edge.due("QUALITY alone", quality.settles(), 1);
        SlipStore hops = Edge.ring();
        // HOPS of 1, 2, 3 are 4 2 3; 4 5 3; 4 5 6; 7 5 6; 7 8 6; 7 8 9; 0 8 9; 0 0 9; 0 0 0
        Edge.due("HOPS alone, till they are too many", hops.settles(), 8);
        hops.looks(8);
        Edge.due("then", hops.settles(), 0);
        Edge.due("all their OWN again", hops.count(5), 0);
        SlipStore last = Edge.nodes(9, 0, 9, 0, 9, 0, 9, 0, 0, 0, 9, 0);
        last.link(4, 5, 0);
        Edge.due("the last NODE alone", last.settles(), 1);
    }

    /** HOPS of 9 at most and six NODES: no net was found that is longer about it, so NONE is not seen. */
    private static void settlesTheMost() {
        Edge.sentence("Promise 15: settles", "NONE: it is not by then.");
        SlipStore x = Edge.nodes(1, 0, 4, 0, 5, 0, 4, 0, 3, 0, 2, 0);
        int[][] links = {{0, 3, 0}, {3, 1, 1}, {4, 2, 0}, {2, 0, 1}, {0, 5, 0}, {5, 4, 2}, {2, 4, 2}};
        for (int[] row : links) {
            x.link(row[0], row[1], row[2]);
        }
        x.looks(1);
        x.owns(0, 4, 0);
        x.sets(2, 9);
        for (int left = 14; left >= 0; left--) {
            Edge.due("by then, " + left, x.settles(), left);
            x.looks(1);
        }
        Edge.due("and stays so", x.settles(), 0);
    }
}
