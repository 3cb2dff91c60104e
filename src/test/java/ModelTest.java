import java.util.Random;

/** Runs of calls, the same each time, asked of SlipStore and of Model: all answers must be alike. */
public final class ModelTest {
    private static final int RUNS = 1500, CALLS = 512;
    private static final int[] FAR = {Integer.MIN_VALUE, Integer.MAX_VALUE, -1001, -1002, 1 << 16};

    private final Random random;
    private final SlipStore store = new SlipStore();
    private final Model model = new Model();
    // Some runs go wrong often and some hardly ever, so that deep states come up as well.
    private final int wrongIn;
    private String call;
    private String pending = "";

    private ModelTest(int run) {
        random = new Random(run);
        wrongIn = run % 3 == 0 ? 12 : 150;
    }

    public static void main(String[] args) {
        Check check = new Check();
        for (int run = 0; run < RUNS && check.isClean(); run++) {
            new ModelTest(run).play(check, run);
        }
        check.end();
    }

    private void play(Check check, int run) {
        for (int n = 0; n < CALLS && check.isClean(); n++) {
            long[] answers = ask(n);
            check.due("run " + run + ", call " + n + ": " + call, answers[0], answers[1]);
        }
        check.due("run " + run + ": digest at the end", store.digest(), model.digest());
    }

    /** A number as told or, now and then, just outside or far out. */
    private int number(int least, int most) {
        if (random.nextInt(wrongIn) == 0) {
            int kind = random.nextInt(3);
            return kind == 0 ? least - 1 : kind == 1 ? most + 1 : FAR[random.nextInt(FAR.length)];
        }
        if (most < least) {
            return least;
        }
        int kind = random.nextInt(8);
        return kind == 0 ? least : kind == 1 ? most : least + random.nextInt(most - least + 1);
    }

    private int nodeNumber() {
        return number(0, model.count(3) - 1);
    }

    private int linkNumber() {
        return number(0, model.count(4) - 1);
    }

    private long[] ask(int n) {
        if (!pending.isEmpty()) {
            char c = pending.charAt(0);
            pending = pending.substring(1);
            return type(c);
        }
        if (n < 24) {
            return random.nextInt(5) < 2 ? change('n') : change('l');
        }
        int kind = random.nextInt(100);
        if (kind < 50) {
            return change("nloooouuuusssckkkkkkttttt".charAt(random.nextInt(25)));
        }
        if (kind < 82) {
            return getter(random.nextInt(11));
        }
        return text(kind);
    }

    private long[] both(String told, long got, long want) {
        call = told;
        return new long[] {got, want};
    }

    private long[] change(char letter) {
        int a, b = 0, c = 0;
        switch (letter) {
            case 'n':
                a = number(0, 9);
                b = number(-99, 99);
                return both("node " + a + " " + b, store.node(a, b), model.change('n', a, b, 0));
            case 'l':
                a = nodeNumber();
                b = nodeNumber();
                c = number(0, random.nextBoolean() ? 1 : 9);
                return both("link " + a + " " + b + " " + c, store.link(a, b, c), model.change('l', a, b, c));
            case 'o':
                a = nodeNumber();
                b = number(0, 9);
                c = number(-99, 99);
                return both("owns " + a + " " + b + " " + c, store.owns(a, b, c), model.change('o', a, b, c));
            case 'u':
                a = linkNumber();
                return both("turns " + a, store.turns(a), model.change('u', a, 0, 0));
            case 's':
                a = number(0, 2);
                b = a == 0 ? number(4, random.nextBoolean() ? 8 : 64) : a == 1 ? number(0, 128) : number(1, 9);
                return both("sets " + a + " " + b, store.sets(a, b), model.change('s', a, b, 0));
            case 'c':
                a = linkNumber();
                return both("clears " + a, store.clears(a), model.change('c', a, 0, 0));
            case 'k':
                a = number(1, random.nextInt(4) == 0 ? 60 : 3);
                return both("looks " + a, store.looks(a), model.change('k', a, 0, 0));
            default:
                a = number(1, random.nextInt(4) == 0 ? 200 : 9);
                return both("ticks " + a, store.ticks(a), model.change('t', a, 0, 0));
        }
    }

    private long[] getter(int kind) {
        int i = kind == 1 || kind == 6 || kind == 7 ? linkNumber() : nodeNumber();
        int what = number(0, kind == 0 ? 7 : kind == 1 ? 2 : kind == 3 ? 6 : kind == 9 ? 4 : 9);
        switch (kind) {
            case 0: return both("of " + i + " " + what, store.of(i, what), model.of(i, what));
            case 1: return both("offers " + i + " " + what, store.offers(i, what), model.offers(i, what));
            case 2: return both("would " + i, store.would(i), model.would(i));
            case 3: return both("chain " + i + " " + what, store.chain(i, what), model.chain(i, what));
            case 4: return both("ring " + i, store.ring(i), model.ring(i));
            case 5: return both("settles", store.settles(), model.settles());
            case 6: return both("about " + i + " " + what, store.about(i, what), model.about(i, what));
            case 7: return both("till " + i, store.till(i), model.till(i));
            case 8: return both("count " + what, store.count(what), model.count(what));
            case 9: return both("told " + what, store.told(what), model.told(what));
            default: return both("digest", store.digest(), model.digest());
        }
    }

    private long[] type(int c) {
        return both("type " + c, store.type(c), model.type(c));
    }

    private long[] text(int kind) {
        if (kind < 88) {
            return both("back", store.back(), model.back());
        }
        if (kind < 95) {
            return both("does", store.does(), model.does());
        }
        if (kind < 96) {
            return type(number(0, 127));
        }
        pending = someText();
        return both("clear", store.clear(), model.clear());
    }

    /** Mostly good ORDERS; sometimes a byte of them is lost, doubled or another one. */
    private String someText() {
        StringBuilder b = new StringBuilder();
        for (int n = random.nextInt(8); n >= 0; n--) {
            order(b, "nlouuskkt".charAt(random.nextInt(9)));
        }
        if (random.nextInt(3) == 0 && b.length() > 0) {
            int place = random.nextInt(b.length());
            String odd = " -;0n5x";
            switch (random.nextInt(4)) {
                case 0: b.deleteCharAt(place); break;
                case 1: b.insert(place, b.charAt(place)); break;
                case 2: b.insert(place, odd.charAt(random.nextInt(odd.length()))); break;
                default: b.setCharAt(place, odd.charAt(random.nextInt(odd.length())));
            }
        }
        return b.toString();
    }

    private void order(StringBuilder b, char letter) {
        b.append(letter);
        blanks(b);
        switch (letter) {
            case 'n': numbers(b, number(0, 9), number(-99, 99)); break;
            case 'l': numbers(b, nodeNumber(), nodeNumber(), number(0, 9)); break;
            case 'o': numbers(b, nodeNumber(), number(0, 9), number(-99, 99)); break;
            case 'u': numbers(b, linkNumber()); break;
            case 's': numbers(b, random.nextInt(3), number(4, 9)); break;
            case 'k': numbers(b, number(1, 60)); break;
            default: numbers(b, number(1, 200));
        }
        blanks(b);
        b.append(';');
        blanks(b);
    }

    private void numbers(StringBuilder b, int... values) {
        for (int k = 0; k < values.length; k++) {
            if (k > 0 && (values[k] >= 0 || random.nextBoolean())) {
                b.append(' ');
            }
            b.append(random.nextInt(9) == 0 && values[k] >= 0 && values[k] < 10 ? "0" : "").append(values[k]);
        }
    }

    private void blanks(StringBuilder b) {
        while (random.nextInt(5) == 0) {
            b.append(' ');
        }
    }
}
