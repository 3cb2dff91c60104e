import java.util.LinkedHashSet;
import java.util.Map;
import java.util.Set;
import java.util.function.IntUnaryOperator;
import java.util.function.Supplier;
import java.util.function.ToIntFunction;

/** What the tests of boundary cases share: the sentence that is looked at, and how it is asked. */
final class Edge {
    static final int NONE = -1001, BAD = -1002, NO = -1003, FULL = -1004;
    static final int LEAST = Integer.MIN_VALUE, MOST = Integer.MAX_VALUE;

    private static final Check check = new Check();
    private static String sentence = "";

    private Edge() {
    }

    /** The tests that follow are of this sentence, which must stand in the document as it is quoted. */
    static void sentence(String heading, String words) {
        sentence = heading + ", \"" + words + "\": ";
        check.holds(sentence + "stands in the document", Doc.says(heading, words));
    }

    static void due(String call, long got, long want) {
        check.due(sentence + call, got, want);
    }

    /** The answers for 0, 1, 2 and so on. */
    static void row(String call, IntUnaryOperator asked, int... want) {
        for (int k = 0; k < want.length; k++) {
            due(call + " " + k, asked.applyAsInt(k), want[k]);
        }
    }

    static void end() {
        check.end();
    }

    static SlipStore nodes(int... qualitiesAndRates) {
        SlipStore x = new SlipStore();
        for (int i = 0; i + 1 < qualitiesAndRates.length; i += 2) {
            x.node(qualitiesAndRates[i], qualitiesAndRates[i + 1]);
        }
        return x;
    }

    /** Two NODES with these RATES, and a LINK from the one to the other with a FRAME of f. */
    static SlipStore store(int f, int rateOfWriter, int rateOfReader) {
        SlipStore x = nodes(0, rateOfWriter, 0, rateOfReader);
        x.sets(0, f);
        x.link(0, 1, 0);
        return x;
    }

    /** Six NODES in a row, each but the first following the one ahead of it. */
    static SlipStore sixInARow() {
        SlipStore x = nodes(0, 60, 5, 1, 5, 2, 5, 3, 5, 4, 5, 5);
        for (int i = 0; i < 5; i++) {
            x.link(i, i + 1, 0);
        }
        x.looks(5);
        return x;
    }

    /** NODES 1, 2, 3 go round in a RING, 4 follows one of them, 0 is alone; HOPS are few yet. */
    static SlipStore ring() {
        SlipStore x = nodes(0, 10, 4, 20, 4, 30, 4, 40, 4, 50);
        x.link(0, 1, 0);
        x.link(1, 2, 0);
        x.link(2, 3, 0);
        x.link(3, 1, 1);
        x.link(3, 4, 0);
        x.sets(2, 9);
        x.looks(4);
        x.turns(0);
        x.looks(1);
        return x;
    }

    /** Something of all: a RING, slips, a LINK that is DOWN, five STATES, a text, a refusal. */
    static SlipStore rich() {
        SlipStore x = ring();
        x.sets(0, 4);
        x.owns(0, 3, 99);
        x.ticks(57);
        x.turns(4);
        x.looks(1);
        x.ticks(9);
        write(x, "n1-1;l0 1 2;s1 3;k1;t7;");
        x.of(0, -1);
        return x;
    }

    static SlipStore withoutStates() {
        SlipStore x = new SlipStore();
        write(x, "n3 3;");
        return x;
    }

    static SlipStore withAllNodes() {
        return nodes(0, -99, 9, 99, 1, 1, 2, 2, 3, 3, 4, 4);
    }

    static SlipStore withAllLinks() {
        SlipStore x = nodes(0, 99, 9, -99);
        for (int k = 0; k < 10; k++) {
            x.link(k % 2, 1 - k % 2, k);
        }
        x.ticks(31);
        return x;
    }

    static SlipStore withAllBytes() {
        SlipStore x = nodes(1, 1);
        write(x, "n2 2;" + " ".repeat(115));
        return x;
    }

    static void write(SlipStore x, String text) {
        for (int i = 0; i < text.length(); i++) {
            x.type(text.charAt(i));
        }
    }

    static int does(SlipStore x, String text) {
        x.clear();
        write(x, text);
        return x.does();
    }

    static int steps(SlipStore x, int times) {
        int left = NONE;
        for (int n = 0; n < times; n++) {
            left = x.back();
        }
        return left;
    }

    /** The number just below the least, the one just above the most, and both ends of all numbers. */
    static int[] outside(int least, int most) {
        return new int[] {least - 1, most + 1, LEAST, MOST};
    }

    /** The call is refused for each number just outside these bounds, and for those far out. */
    static void refusedOutside(String call, Supplier<SlipStore> maker, int least, int most, Numbered asked) {
        for (int w : outside(least, most)) {
            refused(call + " with " + w, maker, x -> asked.ask(x, w), BAD);
        }
    }

    interface Numbered {
        int ask(SlipStore x, int number);
    }

    /**
     * A refused call answers why, raises that count by one, and leaves all else as it is where the call
     * was never made: what can be asked now, every STATE to go back to, THE TEXT and what it does.
     */
    static void refused(String call, Supplier<SlipStore> maker, ToIntFunction<SlipStore> asked, int why) {
        SlipStore x = maker.get();
        due(call, asked.applyAsInt(x), why);
        alike(call + ", then", x, maker.get(), why);
        int states = maker.get().told(4);
        for (int k = 1; k <= states + 1; k++) {
            SlipStore tried = maker.get(), left = maker.get();
            asked.applyAsInt(tried);
            due(call + ", then back", steps(tried, k), steps(left, k));
            alike(call + ", then " + k + " back", tried, left, why);
        }
        SlipStore tried = maker.get(), left = maker.get();
        asked.applyAsInt(tried);
        due(call + ", then does", tried.does(), left.does());
        alike(call + ", then does", tried, left, why);
    }

    private static void alike(String call, SlipStore tried, SlipStore left, int why) {
        Map<String, Long> got = Seen.of(tried), want = Seen.of(left);
        want.merge(why == BAD ? "told(0)" : why == NO ? "told(1)" : "told(2)", 1L, Long::sum);
        same(call, got, want);
    }

    /** Two lots of answers are alike, but for those of the calls that are named. */
    static void same(String call, Map<String, Long> got, Map<String, Long> want, String... butFor) {
        Set<String> names = new LinkedHashSet<>(want.keySet());
        names.addAll(got.keySet());
        names.removeAll(Set.of(butFor));
        int other = 0;
        String which = "";
        for (String name : names) {
            if (!want.getOrDefault(name, (long) NONE - 99).equals(got.get(name))) {
                other++;
                which = which + " " + name + " " + got.get(name) + " for " + want.get(name) + ";";
            }
        }
        due(call + ", answers that are other:" + which, other, 0);
    }
}
