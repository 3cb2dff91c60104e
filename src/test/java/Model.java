import java.util.ArrayDeque;
import java.util.ArrayList;
import java.util.Comparator;
import java.util.Deque;
import java.util.HashSet;
import java.util.List;
import java.util.Optional;
import java.util.Set;
import java.util.regex.Matcher;
import java.util.regex.Pattern;

/**
 * The document told a second time, in another way, to be asked the same as SlipStore: objects and
 * copies instead of rows, the loops of the document as they stand there, THE TEXT by patterns.
 */
final class Model {
    static final int NONE = -1001, BAD = -1002, NO = -1003, FULL = -1004;

    private static final class Clock {
        int quality, hops, rate, ownQuality, ownRate, sum, bits;
        Store reference;

        Clock(int q, int r) {
            tell(q, r);
        }

        void tell(int q, int r) {
            quality = q;
            ownQuality = q;
            rate = r;
            ownRate = r;
            hops = 0;
            sum = 0;
            bits = 0;
            reference = null;
        }

        void beat() {
            sum += rate;
            bits = 8;
            while (sum >= 100) {
                sum -= 100;
                bits++;
            }
            while (sum <= -100) {
                sum += 100;
                bits--;
            }
        }
    }

    private static final class Store {
        int number, from, to, rank, fill, lost, repeated, low, high, beyond;
        boolean up = true;

        void start(int f) {
            fill = f;
            low = f;
            high = f;
            lost = 0;
            repeated = 0;
            beyond = 0;
        }
    }

    private record Offer(int quality, int hops, int rate, Store by) {
    }

    private static final class World {
        int[] settings = {16, 8, 5};
        List<Clock> clocks = new ArrayList<>();
        List<Store> stores = new ArrayList<>();
        int ticks;

        World copy() {
            World w = new World();
            w.settings = settings.clone();
            w.ticks = ticks;
            for (Store s : stores) {
                Store t = new Store();
                t.number = s.number;
                t.from = s.from;
                t.to = s.to;
                t.rank = s.rank;
                t.up = s.up;
                t.fill = s.fill;
                t.lost = s.lost;
                t.repeated = s.repeated;
                t.low = s.low;
                t.high = s.high;
                t.beyond = s.beyond;
                w.stores.add(t);
            }
            for (Clock c : clocks) {
                Clock d = new Clock(c.ownQuality, c.ownRate);
                d.quality = c.quality;
                d.hops = c.hops;
                d.rate = c.rate;
                d.sum = c.sum;
                d.bits = c.bits;
                d.reference = c.reference == null ? null : w.stores.get(c.reference.number);
                w.clocks.add(d);
            }
            return w;
        }

        Optional<Offer> offerBy(Store s) {
            Clock c = clocks.get(s.from);
            boolean none = !s.up || c.reference != null && c.reference.from == s.to || c.hops >= settings[2];
            return none ? Optional.empty() : Optional.of(new Offer(c.quality, c.hops + 1, c.rate, s));
        }

        Optional<Offer> choice(int i) {
            return stores.stream()
                .filter(s -> s.to == i)
                .flatMap(s -> offerBy(s).stream())
                .filter(o -> o.quality < clocks.get(i).ownQuality)
                .min(Comparator.comparingInt(Offer::quality)
                    .thenComparingInt(Offer::hops)
                    .thenComparingInt(o -> o.by.rank)
                    .thenComparingInt(o -> o.by.number));
        }

        void look() {
            List<Optional<Offer>> choices = new ArrayList<>();
            for (int i = 0; i < clocks.size(); i++) {
                choices.add(choice(i));
            }
            for (int i = 0; i < clocks.size(); i++) {
                Clock c = clocks.get(i);
                Offer o = choices.get(i).orElse(new Offer(c.ownQuality, 0, c.ownRate, null));
                c.quality = o.quality;
                c.hops = o.hops;
                c.rate = o.rate;
                c.reference = o.by;
            }
        }

        String looksOf() {
            StringBuilder b = new StringBuilder();
            for (Clock c : clocks) {
                b.append(c.quality).append(' ').append(c.hops).append(' ').append(c.rate).append(' ')
                    .append(c.reference == null ? NONE : c.reference.number).append(';');
            }
            return b.toString();
        }

        int slips() {
            return stores.stream().mapToInt(s -> s.lost + s.repeated).sum();
        }

        void tick() {
            clocks.forEach(Clock::beat);
            int f = settings[0];
            for (Store s : stores) {
                s.fill += clocks.get(s.from).bits;
                s.fill -= clocks.get(s.to).bits;
                while (s.fill > 2 * f) {
                    s.fill -= f;
                    s.lost++;
                }
                while (s.fill < 0) {
                    s.fill += f;
                    s.repeated++;
                }
                s.low = s.fill < s.low ? s.fill : s.low;
                s.high = s.fill > s.high ? s.fill : s.high;
                if (s.fill > f + settings[1] || s.fill < f - settings[1]) {
                    s.beyond++;
                }
            }
            ticks++;
        }

        /** The CHAIN of a NODE; behind it -1 if it is a RING. */
        List<Integer> chain(int i) {
            List<Integer> nodes = new ArrayList<>();
            Set<Integer> seen = new HashSet<>();
            int at = i;
            while (seen.add(at)) {
                nodes.add(at);
                Store s = clocks.get(at).reference;
                if (s == null) {
                    return nodes;
                }
                at = s.from;
            }
            nodes.add(-1);
            return nodes;
        }

        int followed() {
            return (int) clocks.stream().filter(c -> c.reference != null).count();
        }
    }

    private World now = new World();
    private final Deque<World> states = new ArrayDeque<>();
    private final StringBuilder text = new StringBuilder();
    private final int[] refused = new int[3];

    private int refuse(int why) {
        refused[why == BAD ? 0 : why == NO ? 1 : 2]++;
        return why;
    }

    private static boolean in(int v, int least, int most) {
        return least <= v && v <= most;
    }

    private boolean isNode(int i) {
        return in(i, 0, now.clocks.size() - 1);
    }

    private boolean isLink(int i) {
        return in(i, 0, now.stores.size() - 1);
    }

    /** BAD, FULL or 0 for a call told S. */
    private int wouldRefuse(char call, int a, int b, int c) {
        boolean bad = switch (call) {
            case 'n' -> !in(a, 0, 9) || !in(b, -99, 99);
            case 'l' -> !isNode(a) || !isNode(b) || a == b || !in(c, 0, 9);
            case 'o' -> !isNode(a) || !in(b, 0, 9) || !in(c, -99, 99);
            case 'u', 'c' -> !isLink(a);
            case 's' -> !(a == 0 && in(b, 4, 64) || a == 1 && in(b, 0, 128) || a == 2 && in(b, 1, 9));
            case 'k' -> !in(a, 1, 60);
            default -> !in(a, 1, 200);
        };
        boolean full = call == 'n' && now.clocks.size() == 6 || call == 'l' && now.stores.size() == 10;
        return bad ? BAD : full ? FULL : 0;
    }

    private int perform(char call, int a, int b, int c) {
        switch (call) {
            case 'n':
                now.clocks.add(new Clock(a, b));
                return now.clocks.size() - 1;
            case 'l':
                Store s = new Store();
                s.number = now.stores.size();
                s.from = a;
                s.to = b;
                s.rank = c;
                s.start(now.settings[0]);
                now.stores.add(s);
                return s.number;
            case 'o':
                now.clocks.get(a).tell(b, c);
                return (int) now.stores.stream()
                    .filter(t -> t.from == a && now.clocks.get(t.to).reference == t).count();
            case 'u':
                Store t = now.stores.get(a);
                t.up = !t.up;
                return t.up ? 1 : 0;
            case 'c':
                Store cleared = now.stores.get(a);
                int slips = cleared.lost + cleared.repeated;
                cleared.start(cleared.fill);
                return slips;
            case 's':
                int was = now.settings[a];
                now.settings[a] = b;
                if (a == 0) {
                    now.stores.forEach(u -> u.start(b));
                }
                return was;
            case 'k':
                for (int n = 0; n < a; n++) {
                    now.look();
                }
                return now.followed();
            default:
                int before = now.slips();
                for (int n = 0; n < a; n++) {
                    now.tick();
                }
                return now.slips() - before;
        }
    }

    private void leave(World w) {
        states.addLast(w);
        if (states.size() > 5) {
            states.removeFirst();
        }
    }

    int change(char call, int a, int b, int c) {
        int why = wouldRefuse(call, a, b, c);
        if (why != 0) {
            return refuse(why);
        }
        leave(now.copy());
        return perform(call, a, b, c);
    }

    int of(int i, int what) {
        if (!isNode(i) || !in(what, 0, 7)) {
            return refuse(BAD);
        }
        Clock c = now.clocks.get(i);
        int reference = c.reference == null ? NONE : c.reference.number;
        return new int[] {c.quality, c.hops, c.rate, reference, c.ownQuality, c.ownRate, c.sum, c.bits}[what];
    }

    int offers(int i, int what) {
        if (!isLink(i) || !in(what, 0, 2)) {
            return refuse(BAD);
        }
        return now.offerBy(now.stores.get(i))
            .map(o -> what == 0 ? o.quality : what == 1 ? o.hops : o.rate).orElse(NONE);
    }

    int would(int i) {
        if (!isNode(i)) {
            return refuse(BAD);
        }
        World w = now.copy();
        w.look();
        Store s = w.clocks.get(i).reference;
        return s == null ? NONE : s.number;
    }

    int chain(int i, int k) {
        if (!isNode(i) || k < 0) {
            return refuse(BAD);
        }
        List<Integer> nodes = now.chain(i);
        return k < nodes.size() && nodes.get(k) >= 0 ? nodes.get(k) : NONE;
    }

    int ring(int i) {
        return isNode(i) ? now.chain(i).contains(-1) ? 1 : 0 : refuse(BAD);
    }

    int settles() {
        World w = now.copy();
        for (int n = 0; n <= 30; n++) {
            String before = w.looksOf();
            w.look();
            if (w.looksOf().equals(before)) {
                return n;
            }
        }
        return NONE;
    }

    int about(int i, int what) {
        if (!isLink(i) || !in(what, 0, 9)) {
            return refuse(BAD);
        }
        Store s = now.stores.get(i);
        return new int[] {s.from, s.to, s.rank, s.up ? 1 : 0, s.fill, s.lost, s.repeated, s.low, s.high,
            s.beyond}[what];
    }

    int till(int i) {
        if (!isLink(i)) {
            return refuse(BAD);
        }
        World w = now.copy();
        Store s = w.stores.get(i);
        int before = s.lost + s.repeated;
        for (int n = 1; n <= 999; n++) {
            w.tick();
            if (s.lost + s.repeated > before) {
                return n;
            }
        }
        return NONE;
    }

    int count(int what) {
        if (!in(what, 0, 9)) {
            return refuse(BAD);
        }
        int rings = 0;
        for (int i = 0; i < now.clocks.size(); i++) {
            rings += now.chain(i).contains(-1) ? 1 : 0;
        }
        return new int[] {now.settings[0], now.settings[1], now.settings[2], now.clocks.size(), now.stores.size(),
            now.followed(), rings, now.stores.stream().mapToInt(s -> s.lost).sum(),
            now.stores.stream().mapToInt(s -> s.repeated).sum(), now.ticks}[what];
    }

    int type(int c) {
        if (!in(c, 0, 127)) {
            return refuse(BAD);
        }
        if (text.length() == 120) {
            return refuse(FULL);
        }
        text.append((char) c);
        return text.length();
    }

    int clear() {
        int had = text.length();
        text.setLength(0);
        return had;
    }

    private static final String N = " *[0-9]{1,3}", NEXT = " +[0-9]{1,3}", R = "( +[0-9]{1,3}| *-[0-9]{1,3})";
    private static final String ORDER = " *(n" + N + R + "|l" + N + NEXT + NEXT + "|o" + N + NEXT + R
        + "|s" + N + NEXT + "|[ukt]" + N + ") *;";
    private static final Pattern TEXT = Pattern.compile("(" + ORDER + ")+ *");

    /** The FAULT by its meaning: the shortest beginning that no good text goes on from. */
    private int fault() {
        if (TEXT.matcher(text).matches()) {
            return NONE;
        }
        for (int n = 1; n <= text.length(); n++) {
            Matcher m = TEXT.matcher(text.substring(0, n));
            if (!m.matches() && !m.hitEnd()) {
                return n - 1;
            }
        }
        return text.length();
    }

    int does() {
        int fault = fault();
        if (fault != NONE) {
            return -10 - fault;
        }
        World before = now.copy();
        String[] orders = text.toString().trim().split(" *; *");
        for (int n = 0; n < orders.length; n++) {
            char call = orders[n].trim().charAt(0);
            String[] numbers = orders[n].trim().substring(1).replace("-", " -").trim().split(" +");
            int[] v = new int[3];
            for (int k = 0; k < numbers.length; k++) {
                v[k] = Integer.parseInt(numbers[k]);
            }
            if (wouldRefuse(call, v[0], v[1], v[2]) != 0) {
                now = before;
                return -2000 - n;
            }
            perform(call, v[0], v[1], v[2]);
        }
        leave(before);
        return orders.length;
    }

    int back() {
        if (states.isEmpty()) {
            return refuse(NO);
        }
        now = states.removeLast();
        return states.size();
    }

    int told(int what) {
        if (!in(what, 0, 4)) {
            return refuse(BAD);
        }
        return what < 3 ? refused[what] : what == 3 ? text.length() : states.size();
    }

    long digest() {
        List<Integer> values = new ArrayList<>();
        for (int what = 0; what <= 4; what++) {
            values.add(told(what));
        }
        for (int what = 0; what <= 9; what++) {
            values.add(count(what));
        }
        for (int i = 0; i < now.clocks.size(); i++) {
            for (int what = 0; what <= 7; what++) {
                values.add(of(i, what));
            }
            values.add(ring(i));
        }
        for (int i = 0; i < now.stores.size(); i++) {
            for (int what = 0; what <= 9; what++) {
                values.add(about(i, what));
            }
            values.add(offers(i, 0));
        }
        values.add(settles());
        long h = 2792;
        for (int v : values) {
            h = 31 * h + v;
        }
        return h;
    }
}
