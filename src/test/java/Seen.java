import java.util.LinkedHashMap;
import java.util.Map;

/** All that can be asked of an object without changing it, by the calls that ask for it. */
final class Seen {
    private Seen() {
    }

    static Map<String, Long> of(SlipStore x) {
        Map<String, Long> seen = new LinkedHashMap<>();
        for (int what = 0; what <= 4; what++) {
            seen.put("told(" + what + ")", (long) x.told(what));
        }
        for (int what = 0; what <= 9; what++) {
            seen.put("count(" + what + ")", (long) x.count(what));
        }
        for (int i = 0; i < seen.get("count(3)"); i++) {
            putNode(seen, x, i);
        }
        for (int i = 0; i < seen.get("count(4)"); i++) {
            putLink(seen, x, i);
        }
        seen.put("settles()", (long) x.settles());
        return seen;
    }

    private static void putNode(Map<String, Long> seen, SlipStore x, int i) {
        for (int what = 0; what <= 7; what++) {
            seen.put("of(" + i + ", " + what + ")", (long) x.of(i, what));
        }
        seen.put("would(" + i + ")", (long) x.would(i));
        seen.put("ring(" + i + ")", (long) x.ring(i));
        for (int k = 0; k <= 6; k++) {
            seen.put("chain(" + i + ", " + k + ")", (long) x.chain(i, k));
        }
    }

    private static void putLink(Map<String, Long> seen, SlipStore x, int i) {
        for (int what = 0; what <= 9; what++) {
            seen.put("about(" + i + ", " + what + ")", (long) x.about(i, what));
        }
        for (int what = 0; what <= 2; what++) {
            seen.put("offers(" + i + ", " + what + ")", (long) x.offers(i, what));
        }
        seen.put("till(" + i + ")", (long) x.till(i));
    }
}
