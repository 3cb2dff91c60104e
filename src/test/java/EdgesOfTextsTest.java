import java.math.BigInteger;
import java.util.Map;
import java.util.function.ToIntFunction;

/** The boundary cases of THE TEXT and the STATES, in "Terms" and in promises 19 to 24. */
public final class EdgesOfTextsTest {
    private static final int NONE = Edge.NONE, BAD = Edge.BAD, NO = Edge.NO, FULL = Edge.FULL;
    private static final String TERMS = "Terms", FIGURES = "0123456789", LETTERS = "nlouskt";

    public static void main(String[] args) {
        mostBytes();
        everyOrder();
        endedByASemicolon();
        figures();
        minusAhead();
        blanks();
        blanksNeeded();
        readWholeFirst();
        firstByteThatCanNotStand();
        endsTooEarly();
        faultDoesNothing();
        eachCallLeavesAState();
        allButTheText();
        fiveAtMost();
        theFirstOf();
        nothingCountsByDoes();
        type();
        typeFull();
        clear();
        doesHowMany();
        doesOneState();
        doesFault();
        doesEnded();
        back();
        backNone();
        told();
        toldBad();
        digestOfNothing();
        digestWraps();
        digestChangesNothing();
        Edge.end();
    }

    private static int does(String text) {
        return Edge.does(withLink(), text);
    }

    private static SlipStore withLink() {
        return Edge.store(16, 0, 0);
    }

    private static void mostBytes() {
        Edge.sentence(TERMS, "THE TEXT (120 bytes at most)");
        SlipStore x = withLink();
        Edge.write(x, "u0;".repeat(39) + "u0");
        Edge.due("119", x.told(3), 119);
        Edge.due("does, one missing", x.does(), -10 - 119);
        Edge.due("the last", x.type(';'), 120);
        Edge.due("one more", x.type(';'), FULL);
        Edge.due("does", x.does(), 40);
    }

    private static void everyOrder() {
        Edge.sentence(TERMS, "n q r (as node), l a b k (as link), o i q r (as owns), u i (as turns), s k v (as sets)");
        asCall("n0-99;", x -> x.node(0, -99));
        asCall("n9 99;", x -> x.node(9, 99));
        asCall("l0 1 0;", x -> x.link(0, 1, 0));
        asCall("l1 0 9;", x -> x.link(1, 0, 9));
        asCall("o0 0-99;", x -> x.owns(0, 0, -99));
        asCall("o1 9 99;", x -> x.owns(1, 9, 99));
        asCall("u0;", x -> x.turns(0));
        asCall("s0 4;", x -> x.sets(0, 4));
        asCall("s0 64;", x -> x.sets(0, 64));
        asCall("s1 0;", x -> x.sets(1, 0));
        asCall("s1 128;", x -> x.sets(1, 128));
        asCall("s2 1;", x -> x.sets(2, 1));
        asCall("s2 9;", x -> x.sets(2, 9));
        Edge.sentence(TERMS, "k n (as looks), t n (as ticks)");
        asCall("k1;", x -> x.looks(1));
        asCall("k60;", x -> x.looks(60));
        asCall("t1;", x -> x.ticks(1));
        asCall("t200;", x -> x.ticks(200));
        Edge.due("clears has none", does("c0;"), -10);
    }

    private static void asCall(String text, ToIntFunction<SlipStore> call) {
        SlipStore told = Edge.rich(), called = Edge.rich();
        Edge.due(text, Edge.does(told, text), 1);
        called.clear();
        Edge.write(called, text);
        call.applyAsInt(called);
        Edge.same(text, Seen.of(told), Seen.of(called));
    }

    private static void endedByASemicolon() {
        Edge.sentence(TERMS, "tells ORDERS, each ended by ;");
        Edge.due("one", does("u0;"), 1);
        Edge.due("not ended", does("u0"), -10 - 2);
        Edge.due("the last not ended", does("u0;u0"), -10 - 5);
        Edge.due("the first not ended", does("u0u0;"), -10 - 2);
        Edge.due("ended twice", does("u0;;"), -10 - 3);
        Edge.due("nothing that is ended", does(";"), -10);
        Edge.due("ended by a comma", does("u0,"), -10 - 2);
    }

    private static void figures() {
        Edge.sentence(TERMS, "Numbers have 1 to 3 figures");
        String[] none = {"n;", "n0;", "n0 ;", "n0-;", "l;", "l0;", "l0 1;", "o;", "o0;", "o0 0;", "o0 0-;", "u;",
            "s;", "s1;", "k;", "t;"};
        for (String text : none) {
            Edge.due(text, does(text), -10 - text.indexOf(';'));
        }
        String[][] heads = {
            {"n", "0", " 0;"}, {"n0 ", "0", ";"}, {"n0-", "0", ";"},
            {"l", "0", " 1 0;"}, {"l0 ", "1", " 0;"}, {"l0 1 ", "0", ";"},
            {"o", "0", " 0 0;"}, {"o0 ", "0", " 0;"}, {"o0 0 ", "0", ";"}, {"o0 0-", "0", ";"},
            {"u", "0", ";"}, {"s", "0", " 4;"}, {"s1 ", "4", ";"}, {"k", "1", ";"}, {"t", "1", ";"},
        };
        for (String[] row : heads) {
            Edge.due(row[0] + ", 1 figure", does(row[0] + row[1] + row[2]), 1);
            Edge.due(row[0] + ", 2 figures", does(row[0] + "0" + row[1] + row[2]), 1);
            Edge.due(row[0] + ", 3 figures", does(row[0] + "00" + row[1] + row[2]), 1);
            Edge.due(row[0] + ", 4 figures", does(row[0] + "000" + row[1] + row[2]), -10 - row[0].length() - 3);
        }
        Edge.due("999", does("t999;"), -2000);
        Edge.due("-999", does("n0-999;"), -2000);
    }

    private static void minusAhead() {
        Edge.sentence(TERMS, "r perhaps with - ahead");
        SlipStore x = withLink();
        Edge.due("of n", Edge.does(x, "n0-99;"), 1);
        Edge.due("RATE", x.of(2, 5), -99);
        Edge.due("of o", Edge.does(x, "o2 0-1;"), 1);
        Edge.due("RATE told anew", x.of(2, 5), -1);
        Edge.due("0 with - ahead", Edge.does(x, "o2 0-0;"), 1);
        Edge.due("RATE 0", x.of(2, 5), 0);
        Edge.due("just below", does("n0-100;"), -2000);
        String[] wrong = {"n-0 0;", "l-0 1 0;", "o-0 0 0;", "u-0;", "s-0 4;", "k-1;", "t-1;"};
        for (String text : wrong) {
            Edge.due(text, does(text), -10 - 1);
        }
        Edge.due("l b", does("l0-1 0;"), -10 - 2);
        Edge.due("l k", does("l0 1-0;"), -10 - 4);
        Edge.due("o q", does("o0-0 0;"), -10 - 2);
        Edge.due("s v", does("s1-0;"), -10 - 2);
        Edge.due("two of them", does("n0--1;"), -10 - 3);
        Edge.due("behind it", does("n0 1-;"), -10 - 4);
        Edge.due("a plus", does("n0+1;"), -10 - 2);
    }

    private static void blanks() {
        Edge.sentence(TERMS, "blanks (32) may stand anywhere but within a number or between - and its figures");
        String[] parts = {"n", "9", "-99", ";", "l", "0", "1", "9", ";", "o", "1", "9", "-9", ";", "u", "0", ";",
            "s", "2", "9", ";", "k", "60", ";", "t", "200", ";"};
        Edge.due("one everywhere", does(" " + String.join(" ", parts) + " "), 7);
        Edge.due("two everywhere", does("  " + String.join("  ", parts) + "  "), 7);
        Edge.due("within a number", does("t20 0;"), -10 - 4);
        Edge.due("within a number of n", does("n0 1 1;"), -10 - 5);
        Edge.due("between - and its figures", does("n0- 1;"), -10 - 3);
        Edge.due("between - and its figures of o", does("o0 0 - 1;"), -10 - 6);
        Edge.due("ahead of -", does("n0 -1;"), 1);
        for (int other : new int[] {0, 9, 10, 11, 12, 13, 31, 33, 127}) {
            Edge.due("byte " + other, does("u" + (char) other + "0;"), -10 - 1);
            Edge.due("byte " + other + " ahead", does((char) other + "u0;"), -10);
            Edge.due("byte " + other + " at the end", does("u0;" + (char) other), -10 - 3);
        }
    }

    private static void blanksNeeded() {
        Edge.sentence(TERMS, "needed only where figures of two numbers would else stand side by side");
        Edge.due("none", does("n0-1;u0;k1;t1;"), 4);
        Edge.due("one each", does("n0 1;l0 1 0;o0 0 0;s2 5;"), 4);
        Edge.due("n, figures side by side", does("n01;"), -10 - 3);
        Edge.due("s, figures side by side", does("s25;"), -10 - 3);
        Edge.due("l, figures side by side", does("l010;"), -10 - 4);
        Edge.due("o, but for -", does("o00-1;"), -10 - 3);
    }

    private static void readWholeFirst() {
        Edge.sentence(TERMS,
            "THE TEXT is read whole first; an ORDER that its call would refuse then ends all, nothing is done.");
        Edge.due("a FAULT behind a refused one", does("k0;u0;x"), -10 - 6);
        Edge.due("ends too early behind a refused one", does("k0;u"), -10 - 4);
        String[] refused = {"n10 0;", "n0 100;", "n0-100;", "l0 0 0;", "l2 0 0;", "l0 2 0;", "l0 1 10;", "o2 0 0;",
            "o0 10 0;", "o0 0 100;", "o0 0-100;", "u1;", "s3 4;", "s0 3;", "s0 65;", "s1 129;", "s2 0;", "s2 10;",
            "k0;", "k61;", "t0;", "t201;"};
        for (String text : refused) {
            leavesAll(text, -2000);
            leavesAll("u0;t9;" + text + "u9;", -2002);
        }
        SlipStore six = Edge.withAllNodes();
        Edge.due("FULL", Edge.does(six, "u0;"), -2000);
        Edge.due("a seventh NODE", Edge.does(six, "k1;n1 1;"), -2001);
        SlipStore ten = Edge.withAllLinks();
        Edge.due("an eleventh LINK", Edge.does(ten, "u9;l0 1 0;"), -2001);
        Edge.due("it is not turned", ten.about(9, 3), 1);
        Edge.due("six, then one more", Edge.does(new SlipStore(), "n1 1;".repeat(7)), -2006);
        Edge.due("six", Edge.does(new SlipStore(), "n1 1;".repeat(6)), 6);
        Edge.due("by what those ahead have done", Edge.does(new SlipStore(), "n1 1;n2 2;l1 0 0;u0;"), 4);
        Edge.due("not by what those behind would do", Edge.does(new SlipStore(), "n1 1;l1 0 0;n2 2;"), -2001);
    }

    /** It answers so, and all is as it is where does() was never called. */
    private static void leavesAll(String text, int answer) {
        SlipStore done = withLink(), left = withLink();
        Edge.due(text, Edge.does(done, text), answer);
        Edge.write(left, text);
        for (int k = 0; k <= 4; k++) {
            Edge.same(text + ", " + k + " back", Seen.of(done), Seen.of(left));
            Edge.due(text + ", back", done.back(), left.back());
        }
        Edge.due(text + ", THE TEXT", done.does(), left.does());
    }

    private static void firstByteThatCanNotStand() {
        Edge.sentence(TERMS, "FAULT: the place of the first byte that can not stand there (a fourth figure)");
        String orders = " " + LETTERS, number = " " + FIGURES, rate = " -" + FIGURES, end = " ;" + FIGURES;
        String[][] rows = {
            {"", orders}, {" ", orders}, {"u0;", orders}, {"u0; ", orders}, {"u0;n1 1;", orders},
            {"n", number}, {"n ", number}, {"n1", rate}, {"n12", rate}, {"n123", " -"}, {"n1 ", rate}, {"n123 ", rate},
            {"n1-", FIGURES}, {"n1 -", FIGURES}, {"n1-1", end}, {"n1-12", end}, {"n1-123", " ;"}, {"n1-1 ", " ;"},
            {"n1 1", end}, {"n1 12", end}, {"n1 123", " ;"}, {"n1 1 ", " ;"},
            {"l", number}, {"l1", number}, {"l12", number}, {"l123", " "}, {"l1 ", number}, {"l1 1", number},
            {"l1 123", " "}, {"l1 1 ", number}, {"l1 1 1", end}, {"l1 1 12", end}, {"l1 1 123", " ;"},
            {"l1 1 1 ", " ;"},
            {"o", number}, {"o1", number}, {"o123", " "}, {"o1 ", number}, {"o1 1", rate}, {"o1 123", " -"},
            {"o1 1 ", rate}, {"o1 1-", FIGURES}, {"o1 1-1", end}, {"o1 1-123", " ;"}, {"o1 1 1", end},
            {"o1 1 1 ", " ;"},
            {"u", number}, {"u ", number}, {"u1", end}, {"u12", end}, {"u123", " ;"}, {"u1 ", " ;"},
            {"s", number}, {"s1", number}, {"s123", " "}, {"s1 ", number}, {"s1 1", end}, {"s1 123", " ;"},
            {"s1 1 ", " ;"},
            {"k", number}, {"k1", end}, {"k123", " ;"}, {"k1 ", " ;"},
            {"t", number}, {"t1", end}, {"t123", " ;"}, {"t1 ", " ;"},
        };
        for (String[] row : rows) {
            for (int c = 0; c <= 127; c++) {
                nextByte(row[0], c, row[1].indexOf(c) >= 0);
            }
        }
        Edge.due("the last place", does(" ".repeat(119) + "x"), -10 - 119);
        Edge.due("the first of two", does("u0;xu0;y"), -10 - 3);
    }

    private static void nextByte(String ahead, int c, boolean canStand) {
        int answer = does(ahead + (char) c);
        String call = "byte " + c + " behind '" + ahead + "'";
        boolean whole = c == ';' || c == ' ' && ahead.trim().endsWith(";");
        if (canStand && whole) {
            Edge.due(call + " is no FAULT: " + answer, answer > 0 || answer <= -2000 ? 1 : 0, 1);
        } else {
            Edge.due(call, answer, -10 - ahead.length() - (canStand ? 1 : 0));
        }
    }

    private static void endsTooEarly() {
        Edge.sentence(TERMS, "the TEXT's length, if it ends too early (one that is empty or has blanks alone, too)");
        Edge.due("empty", does(""), -10);
        for (int n : new int[] {1, 2, 119, 120}) {
            Edge.due(n + " blanks", does(" ".repeat(n)), -10 - n);
        }
        String text = "n1-1;l0 1 2;o0 1 -2;u0;s0 4;k1;t1; ";
        for (int n = 1; n < text.length(); n++) {
            String cut = text.substring(0, n);
            int ended = cut.length() - cut.replace(";", "").length();
            Edge.due("'" + cut + "'", does(cut), cut.endsWith(";") ? ended : -10 - n);
        }
        Edge.due("120 bytes", does(" ".repeat(118) + "u0"), -10 - 120);
        Edge.due("blanks behind the last", does("u0;" + " ".repeat(117)), 1);
        Edge.due("blanks ahead of the first", does(" ".repeat(117) + "u0;"), 1);
    }

    private static void faultDoesNothing() {
        Edge.sentence(TERMS, "If there is one, nothing is done.");
        leavesAll("", -10);
        leavesAll("    ", -14);
        leavesAll("n1 1;u0;t9;x", -10 - 11);
        leavesAll("s0 4;k1;t0000;", -10 - 12);
        leavesAll("n1 1;n1 1", -10 - 9);
    }

    private static void eachCallLeavesAState() {
        Edge.sentence(TERMS, "each call told S, if it is not refused, leaves one, also if nothing becomes other by it");
        leavesOne("node", x -> x.node(0, 0));
        leavesOne("link", x -> x.link(0, 1, 0));
        leavesOne("owns", x -> x.owns(0, 0, 0));
        leavesOne("turns", x -> x.turns(0));
        leavesOne("sets", x -> x.sets(1, 9));
        leavesOne("clears", x -> x.clears(0));
        leavesOne("looks", x -> x.looks(1));
        leavesOne("ticks", x -> x.ticks(200));
        leavesOne("does", SlipStore::does);
        leavesOne("nothing other by owns", x -> x.owns(1, 0, 0));
        leavesOne("nothing other by sets", x -> x.sets(0, 16));
        leavesNone("of", x -> x.of(0, 0));
        leavesNone("offers", x -> x.offers(0, 0));
        leavesNone("would", x -> x.would(0));
        leavesNone("chain", x -> x.chain(0, 0));
        leavesNone("ring", x -> x.ring(0));
        leavesNone("settles", SlipStore::settles);
        leavesNone("about", x -> x.about(0, 0));
        leavesNone("till", x -> x.till(0));
        leavesNone("count", x -> x.count(0));
        leavesNone("type", x -> x.type(32));
        leavesNone("clear", SlipStore::clear);
        leavesNone("told", x -> x.told(0));
        leavesNone("digest", x -> (int) x.digest());
    }

    private static SlipStore withFourStates() {
        SlipStore x = withLink();
        Edge.write(x, "u0;u0;");
        return x;
    }

    /** One STATE more, and behind back() all is as it was; so too where there are five already. */
    private static void leavesOne(String call, ToIntFunction<SlipStore> asked) {
        SlipStore x = withFourStates();
        Map<String, Long> before = Seen.of(x);
        asked.applyAsInt(x);
        Edge.due(call + ", STATES", x.told(4), 5);
        Edge.due(call + ", back", x.back(), 4);
        Edge.same(call + ", back", Seen.of(x), before);
        SlipStore five = Edge.rich();
        Map<String, Long> rich = Seen.of(five);
        asked.applyAsInt(five);
        Edge.due(call + ", STATES of five", five.told(4), 5);
        Edge.due(call + ", back of five", five.back(), 4);
        Edge.same(call + ", back of five", Seen.of(five), rich, "told(4)");
    }

    private static void leavesNone(String call, ToIntFunction<SlipStore> asked) {
        SlipStore x = withFourStates();
        asked.applyAsInt(x);
        Edge.due(call + ", STATES", x.told(4), 4);
        Edge.due(call + ", back", x.back(), 3);
        Edge.due(call + ", the LINK taken back", x.count(4), 0);
    }

    private static void allButTheText() {
        Edge.sentence(TERMS, "to go back to (all but THE TEXT and how often refused)");
        SlipStore x = Edge.nodes(1, 1);
        x.type('u');
        x.node(2, 2);
        x.type('0');
        x.node(10, 0);
        x.type(';');
        Edge.due("back", x.back(), 1);
        Edge.due("bytes", x.told(3), 3);
        Edge.due("refused", x.told(0), 1);
        Edge.due("the bytes are those", x.does(), -2000);
        x.link(0, 0, 0);
        x.clear();
        Edge.due("back again", x.back(), 0);
        Edge.due("no bytes", x.told(3), 0);
        Edge.due("refused twice", x.told(0), 2);
        Edge.due("back once more", x.back(), NO);
        x.sets(2, 6);
        x.back();
        Edge.due("NO is not taken back", x.told(1), 1);
    }

    private static void fiveAtMost() {
        Edge.sentence(TERMS, "5 at most, older ones lost");
        SlipStore x = new SlipStore();
        Edge.row("STATES", n -> x.sets(1, 10 + n) * 0 + x.told(4), 1, 2, 3, 4, 5, 5, 5);
        Edge.row("back", n -> x.back(), 4, 3, 2, 1, 0, NO, NO);
        Edge.due("as it was behind the second", x.count(1), 11);
        SlipStore five = new SlipStore();
        for (int mask = 10; mask < 15; mask++) {
            five.sets(1, mask);
        }
        Edge.row("back", n -> five.back(), 4, 3, 2, 1, 0, NO);
        Edge.due("as it was at first", five.count(1), 8);
        SlipStore mixed = new SlipStore();
        for (int mask = 10; mask < 20; mask++) {
            mixed.sets(1, mask);
        }
        Edge.steps(mixed, 3);
        Edge.due("three back", mixed.count(1), 16);
        Edge.row("on again", n -> mixed.sets(1, 30 + n) * 0 + mixed.told(4), 3, 4, 5, 5);
        Edge.row("back then", n -> mixed.back() * 0 + mixed.count(1), 32, 31, 30, 16, 15);
        Edge.due("no more", mixed.back(), NO);
    }

    private static void theFirstOf() {
        Edge.sentence(TERMS,
            "Refused (any call, getters, too), changing nothing but how often, the first of: BAD -1002");
        Edge.refused("node, BAD and FULL", Edge::withAllNodes, x -> x.node(10, 0), BAD);
        Edge.refused("link, BAD and FULL", Edge::withAllLinks, x -> x.link(0, 0, 0), BAD);
        Edge.refused("type, BAD and FULL", Edge::withAllBytes, x -> x.type(128), BAD);
        Edge.refused("two numbers wrong count once", Edge::rich, x -> x.owns(9, 10, 100), BAD);
        SlipStore x = new SlipStore();
        x.back();
        x.of(0, 0);
        x.told(5);
        x.count(-1);
        Edge.row("each in its own count", x::told, 3, 1, 0, 0, 0);
    }

    private static void nothingCountsByDoes() {
        Edge.sentence(TERMS, "By does() nothing counts (by type() as by any call).");
        SlipStore x = Edge.withAllNodes();
        Edge.due("BAD", Edge.does(x, "k0;"), -2000);
        Edge.due("FULL", Edge.does(x, "n1 1;"), -2000);
        Edge.due("FAULT", Edge.does(x, "x"), -10);
        Edge.row("told", x::told, 0, 0, 0, 1, 5);
        x.type(-1);
        Edge.write(x, " ".repeat(120));
        Edge.row("told by type", x::told, 1, 0, 1, 120, 5);
    }

    private static void type() {
        Edge.sentence("Promise 19: type", "A byte (0 .. 127) comes behind THE TEXT: how many it has.");
        SlipStore x = new SlipStore();
        Edge.due("the least", x.type(0), 1);
        Edge.due("the most", x.type(127), 2);
        Edge.due("the least can not stand there", x.does(), -10);
        Edge.refusedOutside("c", Edge::rich, 0, 127, (y, w) -> y.type(w));
        Edge.refusedOutside("c, THE TEXT being empty", SlipStore::new, 0, 127, (y, w) -> y.type(w));
        Edge.refused("a byte below 0 that is 117 in eight bits", Edge::rich, y -> y.type(117 - 256), BAD);
        Edge.refused("a byte that is 117 in eight bits", Edge::rich, y -> y.type(117 + 256), BAD);
    }

    private static void typeFull() {
        Edge.sentence("Promise 19: type", "BAD; FULL: 120.");
        SlipStore x = new SlipStore();
        Edge.write(x, " ".repeat(118));
        Edge.due("the last but one", x.type(';'), 119);
        Edge.due("the last", x.type(';'), 120);
        Edge.refused("one more", Edge::withAllBytes, y -> y.type(32), FULL);
        Edge.refused("one more, the least", Edge::withAllBytes, y -> y.type(0), FULL);
        Edge.refused("one more, the most", Edge::withAllBytes, y -> y.type(127), FULL);
        Edge.refusedOutside("BAD ahead of FULL", Edge::withAllBytes, 0, 127, (y, w) -> y.type(w));
    }

    private static void clear() {
        Edge.sentence("Promise 20: clear", "THE TEXT is empty: how many it had.");
        SlipStore x = Edge.withAllBytes();
        Edge.due("full", x.clear(), 120);
        Edge.due("bytes", x.told(3), 0);
        Edge.due("empty", x.clear(), 0);
        Edge.due("does", x.does(), -10);
        Edge.due("one", x.type('u'), 1);
        Edge.due("had one", x.clear(), 1);
        Edge.due("no STATE", x.told(4), 1);
        Edge.due("none of what was", Edge.does(x, "k1"), -10 - 2);
        SlipStore rich = Edge.rich();
        Map<String, Long> before = Seen.of(rich);
        rich.clear();
        Edge.same("nothing else is other", Seen.of(rich), before, "told(3)");
    }

    private static void doesHowMany() {
        Edge.sentence("Promise 21: does", "ORDERS are done (THE TEXT stays): how many.");
        SlipStore x = withLink();
        Edge.due("one, the least", Edge.does(x, "u0;"), 1);
        Edge.due("THE TEXT stays", x.told(3), 3);
        Edge.due("again", x.does(), 1);
        Edge.due("UP again", x.about(0, 3), 1);
        Edge.due("forty, the most", Edge.does(x, "u0;".repeat(40)), 40);
        Edge.due("turned each time", x.about(0, 3), 1);
        Edge.due("thirty-nine", Edge.does(x, "u0;".repeat(39)), 39);
        Edge.due("turned each time but one", x.about(0, 3), 0);
        Edge.due("the most TICKS", Edge.does(x, "t200;".repeat(24)), 24);
        Edge.due("TICKS", x.count(9), 4800);
    }

    private static void doesOneState() {
        Edge.sentence("Promise 21: does", "S (one STATE for all).");
        SlipStore x = new SlipStore();
        Edge.due("seven", Edge.does(x, "n1 1;n2 2;l0 1 0;u0;s0 4;k1;t1;"), 7);
        Edge.due("one STATE", x.told(4), 1);
        Edge.due("back", x.back(), 0);
        Edge.row("all taken back", x::count, 16, 8, 5, 0, 0, 0, 0, 0, 0, 0);
        Edge.row("STATES", n -> Edge.does(x, "s1 " + n + ";k1;") * 0 + x.told(4), 1, 2, 3, 4, 5, 5, 5);
        Edge.row("back one by one", n -> x.back() * 0 + x.count(1), 5, 4, 3, 2, 1);
        Edge.due("the oldest are lost", x.back(), NO);
    }

    private static void doesFault() {
        Edge.sentence("Promise 21: does", "-10 less the FAULT (no S)");
        SlipStore x = withLink();
        int states = x.told(4);
        Edge.due("the least", Edge.does(x, ""), -10);
        Edge.due("the least that is a byte", Edge.does(x, "0u0;"), -10);
        Edge.due("the most that is a byte", Edge.does(x, "u0;".repeat(39) + "u0:"), -129);
        Edge.due("the most", Edge.does(x, "u0;".repeat(39) + "u00"), -130);
        Edge.due("no STATE", x.told(4), states);
    }

    private static void doesEnded() {
        Edge.sentence("Promise 21: does", "-2000 less the number (0 on) of the ORDER that ends all (no S).");
        SlipStore x = withLink();
        int states = x.told(4);
        Edge.due("the first", Edge.does(x, "u1;" + "u0;".repeat(39)), -2000);
        Edge.due("the second", Edge.does(x, "u0;u1;u2;"), -2001);
        Edge.due("the last that can be", Edge.does(x, "u0;".repeat(39) + "u1;"), -2039);
        Edge.due("no STATE", x.told(4), states);
        Edge.due("not turned", x.about(0, 3), 1);
        Edge.row("nothing counts", x::told, 0, 0, 0);
    }

    private static void back() {
        Edge.sentence("Promise 22: back", "A STATE back: how many can be yet.");
        SlipStore x = new SlipStore();
        x.looks(1);
        Edge.due("the only one", x.back(), 0);
        SlipStore y = Edge.rich();
        Edge.row("five", n -> y.back(), 4, 3, 2, 1, 0, NO);
        SlipStore z = Edge.withAllLinks();
        z.back();
        z.back();
        Edge.due("the last LINK taken back", z.count(4), 9);
        Edge.due("turns of it", z.turns(9), BAD);
        Edge.due("about it", z.about(9, 0), BAD);
        SlipStore w = Edge.withAllNodes();
        w.back();
        Edge.due("the last NODE taken back", w.count(3), 5);
        Edge.due("link to it", w.link(0, 5, 0), BAD);
    }

    private static void backNone() {
        Edge.sentence("Promise 22: back", "NO: none.");
        Edge.refused("a new object", SlipStore::new, SlipStore::back, NO);
        Edge.refused("with a text", Edge::withoutStates, SlipStore::back, NO);
        Edge.refused("all five taken back", EdgesOfTextsTest::takenBack, SlipStore::back, NO);
        SlipStore x = takenBack();
        x.back();
        x.back();
        Edge.due("told", x.told(1), 2);
        x.looks(1);
        Edge.due("a STATE again", x.back(), 0);
    }

    private static SlipStore takenBack() {
        SlipStore x = Edge.rich();
        Edge.steps(x, 5);
        return x;
    }

    private static void told() {
        Edge.sentence("Promise 23: told",
            "How often refused: BAD (0), NO (1), FULL (2); bytes of THE TEXT (3), STATES (4).");
        SlipStore x = new SlipStore();
        Edge.row("nothing", x::told, 0, 0, 0, 0, 0, BAD);
        x.back();
        for (int n = 0; n < 8; n++) {
            x.node(n, n);
        }
        Edge.write(x, "\u0000".repeat(121));
        Edge.row("the most", x::told, 1, 1, 3, 120, 5, BAD);
        Edge.due("it counts itself", x.told(0), 2);
    }

    private static void toldBad() {
        Edge.sentence("Promise 23: told", "BAD.");
        Edge.refusedOutside("what", Edge::rich, 0, 4, (x, w) -> x.told(w));
        Edge.refusedOutside("what, nothing being there", SlipStore::new, 0, 4, (x, w) -> x.told(w));
    }

    private static void digestOfNothing() {
        Edge.sentence("Promise 24: digest", "h = 2792; then h = 31 h + v for each v");
        BigInteger h = BigInteger.valueOf(2792);
        int[] values = {0, 0, 0, 0, 0, 16, 8, 5, 0, 0, 0, 0, 0, 0, 0, 0};
        for (int v : values) {
            h = h.multiply(BigInteger.valueOf(31)).add(BigInteger.valueOf(v));
        }
        Edge.due("nothing", new SlipStore().digest(), h.longValue());
    }

    /** By numbers that do not wrap around; the last 64 bits are what a long has. */
    private static void digestWraps() {
        Edge.sentence("Promise 24: digest",
            "told(0) to told(4); count(0) to count(9); of each NODE of(0) to of(7), ring()");
        SlipStore most = Edge.withAllNodes();
        for (int k = 0; k < 10; k++) {
            most.link(k % 6, (k + 1) % 6, k);
        }
        most.ticks(200);
        most.looks(1);
        SlipStore[] all = {Edge.rich(), Edge.ring(), Edge.sixInARow(), Edge.withAllLinks(), Edge.withAllBytes(),
            Edge.withAllNodes(), Edge.withoutStates(), takenBack(), most};
        for (int n = 0; n < all.length; n++) {
            Edge.due("net " + n, all[n].digest(), digestOf(all[n]).longValue());
        }
        Edge.due("further than a long", digestOf(most).bitLength() > 63 ? 1 : 0, 1);
        Edge.sentence("Promise 24: digest", "of each LINK about(0) to about(9), offers(0); settles().");
        SlipStore up = Edge.store(4, 1, 1), down = Edge.store(4, 1, 1);
        down.turns(0);
        up.turns(0);
        up.turns(0);
        down.looks(1);
        // UP has seven values behind it ahead of offers(0); 0 is OFFERED, or NONE
        BigInteger other = BigInteger.valueOf(31).pow(8).add(BigInteger.valueOf(-NONE * 31L));
        Edge.due("UP and DOWN", up.digest() - down.digest(), other.longValue());
    }

    private static BigInteger digestOf(SlipStore x) {
        Map<String, Long> seen = Seen.of(x);
        BigInteger h = BigInteger.valueOf(2792);
        for (Map.Entry<String, Long> e : seen.entrySet()) {
            String call = e.getKey();
            boolean left = call.startsWith("would") || call.startsWith("chain") || call.startsWith("till")
                || call.startsWith("offers") && !call.endsWith(" 0)");
            if (!left) {
                h = h.multiply(BigInteger.valueOf(31)).add(BigInteger.valueOf(e.getValue()));
            }
        }
        return h;
    }

    private static void digestChangesNothing() {
        Edge.sentence("Promise 24: digest", "`long digest()`");
        SlipStore x = Edge.rich();
        Map<String, Long> before = Seen.of(x);
        long once = x.digest();
        Edge.same("nothing is other", Seen.of(x), before);
        Edge.due("again", x.digest(), once);
        x.told(5);
        Edge.due("a refusal is told, ahead of all else", x.digest() == once ? 1 : 0, 0);
    }
}
