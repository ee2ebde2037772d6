import java.util.ArrayList;
import java.util.List;

/** Objects in states that the tests start from, and all that can be asked of one. */
abstract class Fixture {
    static final int MIN = Integer.MIN_VALUE;
    static final int MAX = Integer.MAX_VALUE;

    interface State {
        DedupBlocks make();
    }

    interface Call {
        int on(DedupBlocks x);
    }

    static int content(int d0, int d1, int d2, int d3) {
        return d0 + 8 * d1 + 64 * d2 + 512 * d3;
    }

    /** Contents of four runs (room 5) each, all different, for k from 0 to 31. */
    static int dear(int k) {
        return content(k % 4, 4 + k / 4 % 4, k / 16, 7);
    }

    /** Contents of one run (room 2) each, for k from 1 to 7. */
    static int cheap(int k) {
        return content(k, k, k, k);
    }

    /** Blocks 0 on hold these contents, the others 0. */
    static DedupBlocks holding(int... contents) {
        DedupBlocks x = new DedupBlocks();
        for (int n = 0; n < contents.length; n++) {
            Check.due("write(" + n + ", " + contents[n] + ")", x.write(n, contents[n]), 0);
        }
        return x;
    }

    /** Nine contents of room 5 on blocks 0 to 8: 45 of the 48 are used. */
    static DedupBlocks with45Used() {
        DedupBlocks x = new DedupBlocks();
        for (int n = 0; n < 9; n++) {
            Check.due("write dear", x.write(n, dear(n)), 0);
        }
        Check.due("used of nine dear ones", x.used(), 45);
        return x;
    }

    /** All of the 48 are used: nine of room 5 on blocks 0 to 8 and content 1, of room 3, on block 9; 10 to 31 hold 0. */
    static DedupBlocks full() {
        DedupBlocks x = with45Used();
        Check.due("write(9, 1)", x.write(9, 1), 0);
        Check.due("used when full", x.used(), 48);
        return x;
    }

    /**
     * Something in every volume, with gaps. Volumes 0 and 1 share dear(0), of room 5; 0 and 3 share 9, of room 3,
     * which 0 holds twice; 4095, of room 2, is twice in 0 alone, 512, of room 3, twice in 2 alone; 1 and 4094,
     * of room 3, are held once each.
     */
    static DedupBlocks mixed() {
        DedupBlocks x = holding(dear(0), 9, 0, 9, 4095, 0, 0, 4095, 1, dear(0));
        x.write(16, 512);
        x.write(23, 512);
        x.write(24, 9);
        x.write(31, 4094);
        return x;
    }

    /** Everything that can be asked of the object, in 137 calls or fewer. */
    static List<String> answers(DedupBlocks x) {
        List<String> all = new ArrayList<>();
        for (int n = 0; n < 32; n++) {
            int content = x.read(n);
            all.add("read(" + n + ") = " + content);
            all.add("holders(" + content + ") = " + x.holders(content));
            all.add("alone(" + n + ") = " + x.alone(n));
            all.add("twin(" + n + ") = " + x.twin(n));
        }
        for (int v = 0; v < 4; v++) {
            all.add("aloneIn(" + v + ") = " + x.aloneIn(v));
        }
        all.add("holders(0) = " + x.holders(0));
        all.add("distinct() = " + x.distinct());
        all.add("used() = " + x.used());
        all.add("saved() = " + x.saved());
        all.add("favourite() = " + x.favourite());
        return all;
    }

    static void same(String when, DedupBlocks x, DedupBlocks y) {
        List<String> ofX = answers(x);
        List<String> ofY = answers(y);
        for (int i = 0; i < ofX.size(); i++) {
            Check.that(when + ": " + ofX.get(i) + ", due is " + ofY.get(i), ofX.get(i).equals(ofY.get(i)));
        }
    }

    /** Blocks 0 on hold these contents, the others 0. */
    static void holds(String when, DedupBlocks x, int... contents) {
        for (int n = 0; n < 32; n++) {
            Check.due(when + ": read(" + n + ")", x.read(n), n < contents.length ? contents[n] : 0);
        }
    }

    /** The call answers the code, and an object that it was made on can't be told from one that it wasn't. */
    static void refused(String call, State state, Call made, int code) {
        DedupBlocks x = state.make();
        Check.due(call, made.on(x), code);
        same("after refused " + call, x, state.make());
    }

    /** Refused in an empty, a mixed and a full object; in the last FULL would be due, were the arguments right. */
    static void badArg(String call, Call made) {
        refused(call + " when new", DedupBlocks::new, made, DedupBlocks.BAD_ARG);
        refused(call + " when mixed", Fixture::mixed, made, DedupBlocks.BAD_ARG);
        refused(call + " when full", Fixture::full, made, DedupBlocks.BAD_ARG);
    }

    /** Numbers below the least: the next one, and ones that a wrap-around or a cut to fewer bits would bring back. */
    static int[] tooSmall(int least) {
        return new int[] {least - 1, least - 2, -8, -31, -32, -4096, -65536, -0x20000000, MIN + 1, MIN};
    }

    /** Numbers above the greatest, chosen in the same way; 0x20000000 times 8 is 0 in an int. */
    static int[] tooLarge(int greatest) {
        return new int[] {greatest + 1, greatest + 2, 2 * greatest + 2, 4096, 4097, 65536, 0x20000000, 0x20000001,
            0x40000000, MAX - 1, MAX};
    }
}
