/** The boundary cases that "What it is" and "Terms" name: nodes, links, settings, offers, a LOOK, a TICK. */
public final class EdgesOfTermsTest {
    private static final int NONE = Edge.NONE, BAD = Edge.BAD, FULL = Edge.FULL;
    private static final String TERMS = "Terms", WHAT = "What it is";

    public static void main(String[] args) {
        mostNodes();
        ownQuality();
        ownRate();
        mostLinks();
        fromANodeToAnother();
        rank();
        upAtFirst();
        frame();
        mask();
        hops();
        atFirstAndToldAnew();
        nothingByOneThatIsDown();
        nothingBack();
        nothingWithTooManyHops();
        allNodesAtOnce();
        betterThanItsOwn();
        bestOfWhatIsOffered();
        ifNothingIs();
        sumOfAHundred();
        sumOfAHundredBelow();
        leastAndGreatestFill();
        frameLost();
        frameRepeated();
        lowAndHigh();
        beyond();
        downIsWrittenAllTheSame();
        frameToldAnew();
        chain();
        calls();
        Edge.end();
    }

    private static void mostNodes() {
        Edge.sentence(WHAT, "NODES 0 on, as they come (never more than 6)");
        SlipStore x = new SlipStore();
        Edge.due("of the first ahead of it", x.of(0, 0), BAD);
        Edge.row("node", i -> x.node(9 - i, i), 0, 1, 2, 3, 4, 5, FULL);
        Edge.due("how many", x.count(3), 6);
        Edge.due("of the last", x.of(5, 0), 4);
        Edge.due("of one more", x.of(6, 0), BAD);
        x.back();
        Edge.due("node again behind back", x.node(7, 7), 5);
        Edge.due("one more again", x.node(7, 7), FULL);
        Edge.due("of the last, told anew", x.of(5, 0), 7);
    }

    private static void ownQuality() {
        Edge.sentence(WHAT, "each with an OWN QUALITY (0 ..");
        Edge.due("the least", new SlipStore().node(0, 0), 0);
        Edge.due("just below", new SlipStore().node(-1, 0), BAD);
        Edge.sentence(TERMS, "9, 0 the best)");
        Edge.due("the most", new SlipStore().node(9, 0), 0);
        Edge.due("just above", new SlipStore().node(10, 0), BAD);
        SlipStore x = Edge.nodes(0, 0, 9, 0);
        x.link(0, 1, 0);
        x.link(1, 0, 0);
        Edge.due("the worst would go by the best", x.would(1), 0);
        Edge.due("the best would not go by the worst", x.would(0), NONE);
    }

    private static void ownRate() {
        Edge.sentence(TERMS, "an OWN RATE (-99 .. 99)");
        SlipStore x = Edge.nodes(0, -99, 0, 99);
        Edge.due("the least", x.of(0, 5), -99);
        Edge.due("the most", x.of(1, 5), 99);
        Edge.due("just below", x.node(0, -100), BAD);
        Edge.due("just above", x.node(0, 100), BAD);
    }

    private static void mostLinks() {
        Edge.sentence(TERMS, "LINKS 0 on, as they come (never more than 10)");
        SlipStore x = Edge.nodes(0, 0, 1, 0);
        Edge.due("about the first ahead of it", x.about(0, 0), BAD);
        Edge.row("link", i -> x.link(i % 2, 1 - i % 2, i % 10), 0, 1, 2, 3, 4, 5, 6, 7, 8, 9, FULL);
        Edge.due("how many", x.count(4), 10);
        Edge.due("about the last", x.about(9, 2), 9);
        Edge.due("about one more", x.about(10, 2), BAD);
        x.back();
        Edge.due("link again behind back", x.link(0, 1, 8), 9);
        Edge.due("one more again", x.link(0, 1, 8), FULL);
        Edge.due("about the last, told anew", x.about(9, 2), 8);
    }

    private static void fromANodeToAnother() {
        Edge.sentence(TERMS, "from a NODE to another one");
        SlipStore x = Edge.withAllNodes();
        Edge.due("first to last", x.link(0, 5, 0), 0);
        Edge.due("last to first", x.link(5, 0, 0), 1);
        Edge.due("first to itself", x.link(0, 0, 0), BAD);
        Edge.due("last to itself", x.link(5, 5, 0), BAD);
        Edge.due("to one that is not there", x.link(5, 6, 0), BAD);
        Edge.due("from one that is not there", x.link(6, 5, 0), BAD);
        Edge.due("from and to one that is not there", x.link(6, 6, 0), BAD);
    }

    private static void rank() {
        Edge.sentence(TERMS, "each with a RANK (0 .. 9)");
        SlipStore x = Edge.nodes(0, 0, 1, 0);
        Edge.due("the least", x.link(0, 1, 0), 0);
        Edge.due("the most", x.link(0, 1, 9), 1);
        Edge.due("just below", x.link(0, 1, -1), BAD);
        Edge.due("just above", x.link(0, 1, 10), BAD);
        Edge.due("told least", x.about(0, 2), 0);
        Edge.due("told most", x.about(1, 2), 9);
    }

    private static void upAtFirst() {
        Edge.sentence(TERMS, "UP (at first) or DOWN");
        SlipStore x = Edge.withAllLinks();
        Edge.row("up", i -> x.about(i, 3), 1, 1, 1, 1, 1, 1, 1, 1, 1, 1);
        Edge.due("the last turns", x.turns(9), 0);
        Edge.row("up but the last", i -> x.about(i, 3), 1, 1, 1, 1, 1, 1, 1, 1, 1, 0);
    }

    private static void setting(int k, int least, int most, int first) {
        SlipStore x = Edge.store(16, 0, 0);
        Edge.due("at first", x.count(k), first);
        Edge.due("the least", x.sets(k, least), first);
        Edge.due("told least", x.count(k), least);
        Edge.due("just below", x.sets(k, least - 1), BAD);
        Edge.due("still the least", x.count(k), least);
        Edge.due("the most", x.sets(k, most), least);
        Edge.due("told most", x.count(k), most);
        Edge.due("just above", x.sets(k, most + 1), BAD);
        Edge.due("still the most", x.count(k), most);
        Edge.due("refused", x.told(0), 2);
    }

    private static void frame() {
        Edge.sentence(TERMS, "0 FRAME f (4 .. 64 bits; 16)");
        setting(0, 4, 64, 16);
    }

    private static void mask() {
        Edge.sentence(TERMS, "1 MASK (0 .. 128; 8)");
        setting(1, 0, 128, 8);
    }

    private static void hops() {
        Edge.sentence(TERMS, "2 HOPS (1 .. 9; 5)");
        setting(2, 1, 9, 5);
    }

    private static void atFirstAndToldAnew() {
        Edge.sentence(TERMS, "at first, and where its OWN are told anew, its OWN QUALITY, 0, its OWN RATE, none");
        SlipStore x = Edge.nodes(1, 7, 5, -5);
        Edge.row("of at first", what -> x.of(1, what), 5, 0, -5, NONE, 5, -5, 0, 0);
        x.link(0, 1, 0);
        x.looks(1);
        Edge.row("of behind a LOOK", what -> x.of(1, what), 1, 1, 7, 0, 5, -5);
        x.owns(1, 5, -5);
        Edge.row("of told anew, though alike", what -> x.of(1, what), 5, 0, -5, NONE, 5, -5, 0, 0);
        Edge.row("of the other", what -> x.of(0, what), 1, 0, 7, NONE, 1, 7, 0, 0);
    }

    private static void nothingByOneThatIsDown() {
        Edge.sentence(TERMS, "but nothing by one that is DOWN");
        SlipStore x = Edge.nodes(3, 7, 5, 0);
        x.link(0, 1, 0);
        x.link(0, 1, 0);
        x.turns(0);
        Edge.row("by the one", what -> x.offers(0, what), NONE, NONE, NONE);
        Edge.row("by the other", what -> x.offers(1, what), 3, 1, 7);
        Edge.due("would by the other", x.would(1), 1);
        x.turns(0);
        Edge.row("UP again", what -> x.offers(0, what), 3, 1, 7);
    }

    private static void nothingBack() {
        Edge.sentence(TERMS, "nothing to the NODE from which its REFERENCE comes");
        SlipStore x = Edge.nodes(1, 7, 5, 0, 5, 0);
        x.link(0, 1, 0);
        x.link(1, 0, 0);
        x.link(1, 0, 5);
        x.link(1, 2, 0);
        Edge.due("ahead of a LOOK", x.offers(1, 0), 5);
        x.looks(1);
        Edge.row("back", what -> x.offers(1, what), NONE, NONE, NONE);
        Edge.due("back by another LINK", x.offers(2, 0), NONE);
        Edge.row("on", what -> x.offers(3, what), 1, 2, 7);
        x.turns(0);
        Edge.due("back, the REFERENCE being DOWN", x.offers(1, 0), NONE);
        x.looks(1);
        Edge.due("back, the REFERENCE being gone", x.offers(1, 0), 5);
        SlipStore y = Edge.nodes(5, 0, 1, 7);
        y.link(1, 0, 0);
        y.link(0, 1, 0);
        y.looks(1);
        Edge.due("back from NODE 0 by LINK 1", y.offers(1, 0), NONE);
    }

    private static void nothingWithTooManyHops() {
        Edge.sentence(TERMS, "nothing if its HOPS are as many as SETTING 2 or more");
        SlipStore x = Edge.sixInARow();
        Edge.row("HOPS", i -> x.of(i, 1), 0, 1, 2, 3, 4, 5);
        x.sets(2, 3);
        Edge.row("three", i -> x.offers(i, 1), 1, 2, 3, NONE, NONE);
        x.sets(2, 1);
        Edge.row("the least", i -> x.offers(i, 1), 1, NONE, NONE, NONE, NONE);
        x.sets(2, 4);
        Edge.row("one less than the last but one has", i -> x.offers(i, 1), 1, 2, 3, 4, NONE);
        x.sets(2, 5);
        Edge.row("one more", i -> x.offers(i, 1), 1, 2, 3, 4, 5);
        SlipStore y = Edge.ring();
        y.looks(5);
        Edge.row("HOPS in the ring", i -> y.of(i, 1), 0, 7, 8, 9, 7);
        Edge.due("eight of nine", y.offers(2, 1), 9);
        Edge.due("nine of nine", y.offers(3, 1), NONE);
        Edge.due("nine of nine to another", y.offers(4, 1), NONE);
    }

    private static void allNodesAtOnce() {
        Edge.sentence(TERMS, "A LOOK, of all NODES at once, by what is OFFERED ahead of it");
        SlipStore x = Edge.nodes(1, 0, 5, 0, 5, 0);
        x.link(0, 1, 0);
        x.link(1, 2, 0);
        x.looks(1);
        Edge.row("REFERENCES, rising", i -> x.of(i, 3), NONE, 0, NONE);
        SlipStore y = Edge.nodes(5, 0, 5, 0, 1, 0);
        y.link(2, 1, 0);
        y.link(1, 0, 0);
        y.looks(1);
        Edge.row("REFERENCES, falling", i -> y.of(i, 3), NONE, 0, NONE);
        SlipStore z = Edge.nodes(1, 0, 4, 0, 5, 0);
        z.link(0, 1, 0);
        z.link(1, 2, 0);
        z.looks(1);
        Edge.due("QUALITY OFFERED ahead of it", z.of(2, 0), 4);
        Edge.due("HOPS OFFERED ahead of it", z.of(2, 1), 1);
    }

    private static void betterThanItsOwn() {
        Edge.sentence(TERMS, "of what is OFFERED to a NODE, better in QUALITY than its OWN");
        for (int own = 0; own <= 9; own++) {
            for (int offered = 0; offered <= 9; offered++) {
                SlipStore x = Edge.nodes(offered, 0, own, 0);
                x.link(0, 1, 0);
                Edge.due("own " + own + ", offered " + offered, x.looks(1), offered < own ? 1 : 0);
            }
        }
        SlipStore x = Edge.nodes(1, 0, 5, 0, 4, 0, 3, 0);
        x.link(0, 1, 0);
        x.link(2, 1, 0);
        x.looks(1);
        x.turns(0);
        x.looks(1);
        Edge.due("worse than its QUALITY, better than its OWN", x.of(1, 0), 4);
        x.link(1, 3, 0);
        Edge.due("to a third, worse than its OWN", x.would(3), NONE);
        SlipStore just = Edge.ring();
        just.looks(4);
        just.turns(4);
        just.link(2, 4, 9);
        just.owns(4, 1, 0);
        Edge.row("by LINK 5", what -> just.offers(5, what), 0, 9, 10);
        Edge.due("better by one, with the most HOPS and RANK", just.would(4), 5);
        just.owns(4, 0, 0);
        Edge.due("like, with the most HOPS and RANK", just.would(4), NONE);
        just.link(0, 4, 0);
        Edge.due("like, with the fewest HOPS and least RANK", just.would(4), NONE);
    }

    private static void bestOfWhatIsOffered() {
        Edge.sentence(TERMS,
            "that of the best QUALITY, of like ones of the fewest HOPS, then of the least RANK, "
            + "then of the least LINK");
        SlipStore x = Edge.ring();
        x.looks(4);
        Edge.due("HOPS of what goes round", x.of(2, 1), 8);
        x.node(1, 0);
        x.link(5, 4, 0);
        x.link(2, 4, 9);
        x.turns(4);
        Edge.due("best QUALITY with most HOPS, RANK, LINK", x.would(4), 6);
        SlipStore y = Edge.nodes(1, 0, 5, 0, 5, 0);
        y.link(0, 1, 0);
        y.link(1, 2, 0);
        y.looks(1);
        y.link(0, 2, 9);
        Edge.due("fewest HOPS with most RANK, LINK", y.would(2), 2);
        SlipStore z = Edge.nodes(1, 0, 5, 0, 1, 0);
        z.link(0, 1, 9);
        z.link(0, 1, 8);
        z.link(0, 1, 9);
        Edge.due("least RANK, not the first LINK", z.would(1), 1);
        z.turns(1);
        Edge.due("least LINK of like RANK", z.would(1), 0);
        z.link(2, 1, 0);
        Edge.due("RANK of another NODE", z.would(1), 3);
        SlipStore w = Edge.nodes(1, 0, 5, 0, 1, 0);
        w.link(2, 1, 3);
        w.link(0, 1, 3);
        Edge.due("least LINK, not the least NODE", w.would(1), 0);
    }

    private static void ifNothingIs() {
        Edge.sentence(TERMS, "If nothing is: they are its OWN, 0, its OWN RATE, none");
        SlipStore x = Edge.nodes(1, 7, 5, -5);
        x.link(0, 1, 0);
        x.looks(1);
        x.turns(0);
        Edge.row("ahead of the LOOK", what -> x.of(1, what), 1, 1, 7, 0);
        Edge.due("followers", x.looks(1), 0);
        Edge.row("behind it", what -> x.of(1, what), 5, 0, -5, NONE, 5, -5);
    }

    private static void bits(SlipStore x, int ticks, int bits, int sum) {
        if (ticks > 0) {
            x.ticks(ticks);
        }
        Edge.due("bits", x.of(0, 7), bits);
        Edge.due("SUM", x.of(0, 6), sum);
    }

    private static void sumOfAHundred() {
        Edge.sentence(TERMS, "as often as SUM is 100 or more, 1 more (SUM 100 less)");
        SlipStore x = Edge.nodes(0, 1);
        bits(x, 99, 8, 99);
        bits(x, 1, 9, 0);
        bits(x, 1, 8, 1);
        SlipStore y = Edge.nodes(0, 99);
        bits(y, 1, 8, 99);
        bits(y, 1, 9, 98);
        bits(y, 97, 9, 1);
        bits(y, 1, 9, 0);
        bits(y, 1, 8, 99);
        SlipStore z = Edge.nodes(9, 99, 0, -99);
        z.link(1, 0, 0);
        bits(z, 1, 8, 99);
        z.looks(1);
        bits(z, 1, 8, 0);
        bits(z, 1, 8, -99);
    }

    private static void sumOfAHundredBelow() {
        Edge.sentence(TERMS, "as often as it is -100 or less, 1 less (SUM 100 more)");
        SlipStore x = Edge.nodes(0, -1);
        bits(x, 99, 8, -99);
        bits(x, 1, 7, 0);
        bits(x, 1, 8, -1);
        SlipStore y = Edge.nodes(0, -99);
        bits(y, 1, 8, -99);
        bits(y, 1, 7, -98);
        bits(y, 97, 7, -1);
        bits(y, 1, 7, 0);
        bits(y, 1, 8, -99);
        SlipStore z = Edge.nodes(0, 0);
        bits(z, 200, 8, 0);
    }

    /** Both SUMS are at 99 and -99 then, so that each TICK that follows moves the FILL by two. */
    private static SlipStore fast(int f, int sign) {
        SlipStore x = Edge.store(f, 99 * sign, -99 * sign);
        x.ticks(1);
        return x;
    }

    /** Both SUMS are where each hundredth TICK from now moves the FILL by one. */
    private static SlipStore slow(int f, int sign) {
        return Edge.store(f, sign, 0);
    }

    private static void tickHundreds(SlipStore x, int times) {
        for (int n = 0; n < times; n++) {
            x.ticks(100);
        }
    }

    private static void leastAndGreatestFill() {
        Edge.sentence(TERMS, "FILL (f at first, and 0 is the least, 2 f the greatest that can be)");
        for (int f : new int[] {4, 5, 16, 63, 64}) {
            SlipStore full = slow(f, 1);
            Edge.due("at first, " + f, full.about(0, 4), f);
            tickHundreds(full, f);
            Edge.due("greatest, " + f, full.about(0, 4), 2 * f);
            Edge.due("none LOST, " + f, full.about(0, 5), 0);
            Edge.due("HIGH, " + f, full.about(0, 8), 2 * f);
            SlipStore empty = slow(f, -1);
            tickHundreds(empty, f);
            Edge.due("least, " + f, empty.about(0, 4), 0);
            Edge.due("none REPEATED, " + f, empty.about(0, 6), 0);
            Edge.due("LOW, " + f, empty.about(0, 7), 0);
        }
    }

    private static void frameLost() {
        Edge.sentence(TERMS, "Above 2 f: a frame is LOST: f less, again as long as it is above");
        for (int f : new int[] {4, 5, 16, 63, 64}) {
            SlipStore one = slow(f, 1);
            tickHundreds(one, f);
            Edge.due("99 more TICKS at the edge, " + f, one.ticks(99), 0);
            Edge.due("one bit over it, " + f, one.ticks(1), 1);
            Edge.row("about, " + f, k -> one.about(0, k + 4), f + 1, 1, 0, f, 2 * f);
        }
        for (int f : new int[] {4, 16, 64}) {
            SlipStore two = fast(f, 1);
            Edge.due("to the edge by twos, " + f, two.ticks(f / 2), 0);
            Edge.due("at the edge, " + f, two.about(0, 4), 2 * f);
            Edge.due("two bits over it, " + f, two.ticks(1), 1);
            Edge.row("about then, " + f, k -> two.about(0, k + 4), f + 2, 1, 0, f, 2 * f);
        }
        SlipStore odd = fast(5, 1);
        Edge.due("one below the edge", odd.ticks(2), 0);
        Edge.due("FILL there", odd.about(0, 4), 9);
        Edge.due("from one below over it", odd.ticks(1), 1);
        Edge.row("about", k -> odd.about(0, k + 4), 6, 1, 0, 5, 9);
    }

    private static void frameRepeated() {
        Edge.sentence(TERMS, "below 0: a frame is REPEATED: f more, as long as it is below");
        for (int f : new int[] {4, 5, 16, 63, 64}) {
            SlipStore one = slow(f, -1);
            tickHundreds(one, f);
            Edge.due("99 more TICKS at the edge, " + f, one.ticks(99), 0);
            Edge.due("one bit below it, " + f, one.ticks(1), 1);
            Edge.row("about, " + f, k -> one.about(0, k + 4), f - 1, 0, 1, 0, f);
        }
        for (int f : new int[] {4, 16, 64}) {
            SlipStore two = fast(f, -1);
            Edge.due("to the edge by twos, " + f, two.ticks(f / 2), 0);
            Edge.due("at the edge, " + f, two.about(0, 4), 0);
            Edge.due("two bits below it, " + f, two.ticks(1), 1);
            Edge.row("about then, " + f, k -> two.about(0, k + 4), f - 2, 0, 1, 0, f);
        }
        SlipStore odd = fast(5, -1);
        Edge.due("one above the edge", odd.ticks(2), 0);
        Edge.due("FILL there", odd.about(0, 4), 1);
        Edge.due("from one above it below", odd.ticks(1), 1);
        Edge.row("about", k -> odd.about(0, k + 4), 4, 0, 1, 1, 5);
    }

    private static void lowAndHigh() {
        Edge.sentence(TERMS, "the least and greatest FILL behind a TICK since they were told or cleared (f at first)");
        SlipStore x = fast(4, 1);
        Edge.row("at first, FILL being f", k -> x.about(0, k + 7), 4, 4);
        x.ticks(2);
        x.clears(0);
        Edge.row("cleared at the greatest", k -> x.about(0, k + 7), 8, 8);
        x.ticks(1);
        Edge.row("a frame LOST then", k -> x.about(0, k + 7), 6, 8);
        SlipStore y = fast(4, -1);
        y.ticks(2);
        y.clears(0);
        Edge.row("cleared at the least", k -> y.about(0, k + 7), 0, 0);
        y.ticks(1);
        Edge.row("a frame REPEATED then", k -> y.about(0, k + 7), 0, 2);
        y.sets(0, 9);
        Edge.row("told anew", k -> y.about(0, k + 7), 9, 9);
        y.ticks(4);
        Edge.row("behind TICKS", k -> y.about(0, k + 7), 1, 9);
    }

    private static void beyond() {
        Edge.sentence(TERMS, "BEYOND: TICKS behind which FILL is further than MASK from f");
        for (int sign = -1; sign <= 1; sign += 2) {
            SlipStore x = slow(16, sign);
            x.sets(1, 2);
            tickHundreds(x, 2);
            Edge.due("as far as MASK, " + sign, x.about(0, 9), 0);
            x.ticks(99);
            Edge.due("as far as MASK still, " + sign, x.about(0, 9), 0);
            x.ticks(1);
            Edge.due("one further, " + sign, x.about(0, 9), 1);
            x.ticks(5);
            Edge.due("five TICKS more, " + sign, x.about(0, 9), 6);
            x.sets(1, 3);
            x.ticks(5);
            Edge.due("MASK one more, what was stays, " + sign, x.about(0, 9), 6);
            SlipStore least = slow(16, sign);
            least.sets(1, 0);
            least.ticks(99);
            Edge.due("MASK 0, FILL is f, " + sign, least.about(0, 9), 0);
            least.ticks(1);
            Edge.due("MASK 0, FILL one off, " + sign, least.about(0, 9), 1);
            SlipStore most = fast(64, sign);
            most.sets(1, 63);
            most.ticks(31);
            Edge.due("MASK 63, FILL 62 off, " + sign, most.about(0, 9), 0);
            most.ticks(1);
            Edge.due("MASK 63, at the edge, " + sign, most.about(0, 9), 1);
            most.sets(1, 64);
            most.clears(0);
            most.ticks(200);
            Edge.due("MASK as far as the edge, " + sign, most.about(0, 9), 0);
            most.sets(1, 128);
            most.ticks(200);
            Edge.due("MASK the most, " + sign, most.about(0, 9), 0);
        }
        SlipStore lost = fast(4, 1);
        lost.sets(1, 2);
        lost.ticks(2);
        Edge.due("at the edge", lost.about(0, 9), 1);
        lost.ticks(1);
        Edge.due("FILL behind the TICK, the frame being LOST", lost.about(0, 9), 1);
    }

    private static void downIsWrittenAllTheSame() {
        Edge.sentence(TERMS, "A LINK that is DOWN is written all the same");
        SlipStore up = fast(4, 1), down = fast(4, 1);
        down.turns(0);
        Edge.due("frames", down.ticks(55), up.ticks(55));
        Edge.row("about", k -> down.about(0, k + 4) - up.about(0, k + 4), 0, 0, 0, 0, 0, 0);
        Edge.due("LOST", down.about(0, 5) > 20 ? 1 : 0, 1);
        Edge.due("DOWN still", down.about(0, 3), 0);
    }

    private static void frameToldAnew() {
        Edge.sentence(TERMS, "SETTING 0 told anew: FILLS, LOW and HIGH are f, all counts of LINKS 0");
        for (int f : new int[] {4, 5, 64}) {
            SlipStore x = Edge.withAllLinks();
            x.sets(0, 5);
            x.sets(1, 0);
            x.ticks(33);
            Edge.due("slips ahead of it", x.count(7) > 9 && x.count(8) > 9 ? 1 : 0, 1);
            Edge.due("what it was", x.sets(0, f), 5);
            for (int i = 0; i < 10; i++) {
                int link = i;
                Edge.row("about " + i, k -> x.about(link, k + 3), 1, f, 0, 0, f, f, 0);
            }
            Edge.due("slips", x.count(7) + x.count(8), 0);
            Edge.due("TICKS stay", x.count(9), 64);
        }
        SlipStore none = new SlipStore();
        Edge.due("without LINKS", none.sets(0, 4), 16);
        SlipStore refused = fast(4, 1);
        refused.ticks(9);
        int fill = refused.about(0, 4), lost = refused.about(0, 5);
        refused.sets(0, 65);
        Edge.due("refused, FILL stays", refused.about(0, 4), fill);
        Edge.due("refused, LOST stays", refused.about(0, 5), lost);
    }

    private static void chain() {
        Edge.sentence(TERMS, "till one that has none, or that was there already (then it is a RING)");
        SlipStore row = Edge.sixInARow();
        Edge.row("the longest", k -> row.chain(5, k), 5, 4, 3, 2, 1, 0, NONE);
        Edge.row("no RING", row::ring, 0, 0, 0, 0, 0, 0);
        SlipStore x = Edge.ring();
        Edge.row("round", k -> x.chain(2, k), 2, 1, 3, NONE, NONE);
        Edge.row("into it", k -> x.chain(4, k), 4, 3, 2, 1, NONE);
        Edge.row("RINGS", x::ring, 0, 1, 1, 1, 1);
    }

    private static void calls() {
        Edge.sentence(WHAT, "An object is used for at most 512 calls after it has been made");
        SlipStore x = Edge.store(4, 99, -99);
        for (int n = 5; n <= 510; n++) {
            x.ticks(200);
        }
        Edge.due("TICKS at the 511th", x.count(9), 506 * 200);
        // 101200 TICKS, 2 bits in 99 of 100: 200376 bits, of which 4 go to the edge, and 4 more at each frame
        Edge.due("LOST at the 512th", x.about(0, 5), (200376 - 4 + 3) / 4);
    }
}
