/** The boundary cases of promises 16 to 18: what can be asked of links, and of all together. */
public final class EdgesOfLinksTest {
    private static final int NONE = Edge.NONE, BAD = Edge.BAD;

    public static void main(String[] args) {
        aboutWhat();
        aboutBad();
        tillTheFirst();
        tillJustOverTheEdge();
        tillTheLast();
        tillNone();
        tillBad();
        countWhat();
        countNothing();
        countTheMost();
        countBad();
        Edge.end();
    }

    private static void aboutWhat() {
        Edge.sentence("Promise 16: about", "from (what 0), to (1), RANK (2), UP (3: 1, 0), FILL (4), LOST (5)");
        SlipStore x = Edge.withAllLinks();
        // FILLS of the first: 16 by twos to 32, then 18 to 32 twice, then 18 to 28; 26 and more is BEYOND
        Edge.row("the first", what -> x.about(0, what), 0, 1, 0, 1, 28, 3, 0, 16, 32, 14, BAD);
        Edge.row("the last", what -> x.about(9, what), 1, 0, 9, 1, 4, 0, 3, 0, 16, 14, BAD);
        x.turns(9);
        Edge.due("DOWN", x.about(9, 3), 0);
        Edge.due("UP", x.about(8, 3), 1);
    }

    private static void aboutBad() {
        Edge.sentence("Promise 16: about", "BAD.");
        Edge.refusedOutside("i", Edge::rich, 0, 4, (x, w) -> x.about(w, 0));
        Edge.refusedOutside("what", Edge::rich, 0, 9, (x, w) -> x.about(0, w));
        Edge.refusedOutside("i of all that can be", Edge::withAllLinks, 0, 9, (x, w) -> x.about(w, 9));
        Edge.refused("both", Edge::rich, x -> x.about(5, 10), BAD);
    }

    private static void tillTheFirst() {
        Edge.sentence("Promise 17: till", "In how many TICKS from now (1 .. 999)");
        for (int sign = -1; sign <= 1; sign += 2) {
            SlipStore x = Edge.store(4, 99 * sign, -99 * sign);
            Edge.row("one by one, " + sign, n -> x.till(0) + 0 * x.ticks(1), 4, 3, 2, 1, 2, 1, 2, 1);
            SlipStore slow = Edge.store(4, sign, 0);
            slow.ticks(200);
            slow.ticks(200);
            slow.ticks(99);
            Edge.due("the least, at the edge, " + sign, slow.till(0), 1);
            Edge.due("so it is, " + sign, slow.ticks(1), 1);
        }
    }

    private static void tillJustOverTheEdge() {
        Edge.sentence("Promise 17: till", "LINK i first has a frame LOST or REPEATED");
        for (int f : new int[] {4, 5, 16, 63, 64}) {
            for (int sign = -1; sign <= 1; sign += 2) {
                SlipStore x = Edge.store(f, 99 * sign, 0);
                // a bit in each TICK but the first (and the 101st): f of them to the edge, one more over it
                int due = f + 2;
                Edge.due("FRAME " + f + ", " + sign, x.till(0), due);
                Edge.due("none ahead of it", x.ticks(due - 1), 0);
                Edge.due("at the edge", x.about(0, 4), f + f * sign);
                Edge.due("then", x.till(0), 1);
                Edge.due("one", x.ticks(1), 1);
            }
        }
        SlipStore down = Edge.store(4, 99, 0);
        down.turns(0);
        Edge.due("DOWN all the same", down.till(0), 6);
        SlipStore other = Edge.store(4, 0, 0);
        other.node(0, 99);
        other.link(2, 1, 0);
        Edge.due("another LINK's frame is none of it", other.till(0), NONE);
        Edge.due("the other LINK's", other.till(1), 6);
    }

    private static void tillTheLast() {
        Edge.sentence("Promise 17: till", "(1 .. 999), RATES being as they are");
        for (int sign = -1; sign <= 1; sign += 2) {
            SlipStore writer = Edge.store(9, sign, 0);
            Edge.due("a thousand, " + sign, writer.till(0), NONE);
            writer.ticks(1);
            Edge.due("the most, " + sign, writer.till(0), 999);
            writer.ticks(1);
            Edge.due("one less, " + sign, writer.till(0), 998);
            SlipStore reader = Edge.store(9, 0, sign);
            Edge.due("a thousand, read, " + sign, reader.till(0), NONE);
            reader.ticks(1);
            Edge.due("the most, read, " + sign, reader.till(0), 999);
        }
        SlipStore x = Edge.nodes(0, 50, 9, 0);
        x.sets(0, 4);
        x.link(0, 1, 0);
        Edge.due("its OWN RATE", x.till(0), 10);
        x.looks(1);
        Edge.due("the RATE that it follows", x.till(0), NONE);
        x.turns(0);
        Edge.due("as they are, not as a LOOK would make them", x.till(0), NONE);
    }

    private static void tillNone() {
        Edge.sentence("Promise 17: till", "NONE: not by then.");
        int[] rates = {-99, -1, 0, 1, 99};
        for (int rate : rates) {
            SlipStore x = Edge.store(4, rate, rate);
            Edge.due("alike, " + rate, x.till(0), NONE);
            Edge.due("nothing is other, " + rate, x.count(9) + x.of(0, 6), 0);
            Edge.due("no more STATES, " + rate, x.told(4), 4);
            Edge.due("not refused, " + rate, x.told(0) + x.told(1) + x.told(2), 0);
        }
        SlipStore great = Edge.store(64, 6, 0);
        // 65 bits, six in each hundred TICKS
        Edge.due("a great FRAME", great.till(0), NONE);
        great.owns(0, 0, 7);
        Edge.due("a little faster", great.till(0), 929);
    }

    private static void tillBad() {
        Edge.sentence("Promise 17: till", "BAD.");
        Edge.refusedOutside("i", Edge::rich, 0, 4, (x, w) -> x.till(w));
        Edge.refusedOutside("i of all that can be", Edge::withAllLinks, 0, 9, (x, w) -> x.till(w));
    }

    private static void countWhat() {
        Edge.sentence("Promise 18: count", "SETTINGS (what 0 to 2), NODES (3), LINKS (4), NODES with a REFERENCE (5)");
        SlipStore x = Edge.sixInARow();
        x.sets(0, 4);
        x.sets(1, 0);
        x.sets(2, 1);
        Edge.row("the least SETTINGS", x::count, 4, 0, 1, 6, 5, 5, 0, 0, 0, 0, BAD);
        x.sets(0, 64);
        x.sets(1, 128);
        x.sets(2, 9);
        Edge.row("the most", x::count, 64, 128, 9, 6, 5, 5, 0, 0, 0, 0, BAD);
    }

    private static void countNothing() {
        Edge.sentence("Promise 18: count", "RINGS (6: NODES whose CHAIN is one)");
        Edge.due("no NODES", new SlipStore().count(6), 0);
        Edge.due("a row", Edge.sixInARow().count(6), 0);
        Edge.due("a RING of three, and one behind it", Edge.ring().count(6), 4);
    }

    private static void countTheMost() {
        Edge.sentence("Promise 18: count", "frames LOST (7), REPEATED (8) of all LINKS, TICKS so far (9)");
        SlipStore x = Edge.withAllLinks();
        Edge.row("of ten LINKS", k -> x.count(k + 7), 15, 15, 31);
        x.clears(0);
        Edge.row("the first cleared", k -> x.count(k + 7), 12, 15, 31);
        x.clears(9);
        Edge.row("the last cleared", k -> x.count(k + 7), 12, 12, 31);
        x.sets(0, 16);
        Edge.row("the FRAME told anew", k -> x.count(k + 7), 0, 0, 31);
        x.ticks(200);
        Edge.due("TICKS", x.count(9), 231);
        x.back();
        Edge.due("TICKS taken back", x.count(9), 31);
    }

    private static void countBad() {
        Edge.sentence("Promise 18: count", "BAD.");
        Edge.refusedOutside("what", Edge::rich, 0, 9, (x, w) -> x.count(w));
        Edge.refusedOutside("what, nothing being there", SlipStore::new, 0, 9, (x, w) -> x.count(w));
    }
}
