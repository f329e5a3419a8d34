import java.util.Random;

/** Every call with every mix of numbers at and beyond the edges, in several states: none throws, each ends. */
public final class WildTest extends Due {
    private static final int[] EDGES = {LEAST, -3, -2, -1, 0, 1, 2, 3, 4, 7, 8, 9, 15, 16, 17, 60, 99, 100, 255, 256, MOST};
    private static final long[] LONGS = {Long.MIN_VALUE, -1, 0, 7, 8, 0x3031323334353637L, 0x2020202020203A31L, 1L << 32, Long.MAX_VALUE};
    private static final int CALLS = 30;
    /** Enough that each call meets each mix of two of its numbers, and most mixes of three. */
    private static final int ROUNDS = 6000;
    private static final Random RANDOM = new Random(20261118);

    private static int edge() {
        return EDGES[RANDOM.nextInt(EDGES.length)];
    }

    private static BesideQuotes anyState() {
        BesideQuotes x;
        switch (RANDOM.nextInt(5)) {
            case 0:
                return new BesideQuotes();
            case 1:
                x = made(PROPS, "01234567");
                break;
            case 2:
                x = ruled(RING, CHAIN, "012");
                break;
            case 3:
                x = ruled(THIRDS, "9:12;1;1p", "");
                break;
            default:
                x = made("3:1;2:2;5:34;1:5;4;2:46;7p;9:0", "70125");
                break;
        }
        for (int sheet = 0; sheet < 4; sheet++) {
            x.sheet(sheet, RANDOM.nextInt(3), RANDOM.nextInt(17));
        }
        return x;
    }

    private static int first(int call, BesideQuotes x) {
        boolean is = RANDOM.nextBoolean();
        switch (call) {
            case 0: return x.book(edge());
            case 1: return x.quote(edge(), edge(), is);
            case 2: return x.hate(edge(), edge(), is);
            case 3: return x.prop(edge(), is);
            case 4: return x.thick(edge(), edge());
            case 5: return x.rule(edge(), edge());
            case 6: return x.touch(edge(), edge());
            case 7: return x.type(LONGS[RANDOM.nextInt(LONGS.length)], edge());
            case 8: return x.books();
            case 9: return x.hall();
            case 10: return x.at(edge());
            case 11: return x.count(edge());
            case 12: return x.judged();
            case 13: return x.rows(edge());
            case 14: return x.row(edge(), edge(), edge());
            default: return second(call, x);
        }
    }

    private static int second(int call, BesideQuotes x) {
        switch (call) {
            case 15: return x.cut(edge());
            case 16: return x.put(edge());
            case 17: return x.lend(edge());
            case 18: return x.forged(edge(), edge());
            case 19: return x.apart(edge(), edge(), edge());
            case 20: return x.free(edge());
            case 21: return x.burnt(edge(), edge(), edge(), edge(), edge());
            case 22: return x.image();
            case 23: return x.restore();
            case 24: return x.walk(edge(), edge(), edge(), edge());
            case 25: return x.joined(edge(), edge(), edge(), edge());
            case 26: return x.sheet(edge(), edge(), edge());
            case 27: return x.drop(edge());
            case 28: return x.item(edge(), edge(), edge(), LONGS[RANDOM.nextInt(LONGS.length)]);
            default: return x.copy(edge(), edge(), edge(), edge(), edge());
        }
    }

    private static boolean isAnswer(int answer) {
        boolean isFault = answer <= -20 && answer >= -80;
        boolean isConstant = answer >= NONE && answer < 0 || answer >= SIZE && answer <= NULL;
        return isFault || isConstant || answer >= 0 && answer <= 40320;
    }

    public static void main(String[] args) {
        by(0, "no call throws, each answer is one that the document knows");
        for (int round = 0; round < ROUNDS; round++) {
            BesideQuotes x = anyState();
            for (int k = 0; k < 90; k++) {
                int call = RANDOM.nextInt(CALLS);
                due("call " + call, isAnswer(first(call, x)) ? 1 : 0, 1);
            }
        }
        end();
    }
}
