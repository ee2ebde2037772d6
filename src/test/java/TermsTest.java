import java.util.ArrayList;
import java.util.List;

/** A test for each sentence of the document's 'What it is' and 'Terms', and for promise 1. */
final class TermsTest extends Fixture {
    private TermsTest() {
    }

    public static void main(String[] args) {
        constants();
        callsToThe512th();
        blockNumbers();
        contentNumber();
        atFirstZero();
        runs();
        roomIsRunsPlusOne();
        roomOfContentZero();
        differentContentsOnly();
        neverAbove48();
        fullByOne();
        fullByMore();
        countedAtTheEnd();
        roomComesBack();
        tidyUnseen();
        tidyGivesNoRoom();
        noCallThrows();
        refusedForAnArgument();
        refusedForRoom();
        refusedAgainAndAgain();
        newObject();
        newObjectsAreApart();
        Check.end();
    }

    private static void constants() {
        Check.sentence("BAD_ARG = -1, FULL = -2, NONE = -4");
        Check.due("BAD_ARG", DedupBlocks.BAD_ARG, -1);
        Check.due("FULL", DedupBlocks.FULL, -2);
        Check.due("NONE", DedupBlocks.NONE, -4);
    }

    private static void callsToThe512th() {
        Check.sentence("An object is used for at most 512 calls");
        DedupBlocks x = new DedupBlocks();
        int before = 0;
        for (int call = 1; call <= 511; call++) {
            int content = call * 37 % 4096;
            Check.due("call " + call + ", write(31, " + content + ")", x.write(31, content), before);
            before = content;
        }
        Check.due("call 512, read(31)", x.read(31), before);
    }

    private static void blockNumbers() {
        Check.sentence("4 volumes, 0 to 3, with 8 blocks each, 0 to 7; block b of volume v has the number 8 v + b");
        for (int v = 0; v < 4; v++) {
            DedupBlocks x = new DedupBlocks();
            for (int n = 0; n < 32; n++) {
                x.write(n, 9);
            }
            Check.due("erase(" + v + ")", x.erase(v), 8);
            for (int n = 0; n < 32; n++) {
                Check.due("after erase(" + v + ") read(" + n + ")", x.read(n), n >= 8 * v && n <= 8 * v + 7 ? 0 : 9);
            }
        }
    }

    private static void contentNumber() {
        Check.sentence("four digits 0 to 7 d0 d1 d2 d3, handed over as d0 + 8 d1 + 64 d2 + 512 d3 (0 to 4095)");
        int[] weight = {1, 8, 64, 512};
        for (int i = 0; i < 4; i++) {
            DedupBlocks x = new DedupBlocks();
            for (int d = 1; d < 8; d++) {
                Check.due("patch(0, " + i + ", " + d + ")", x.patch(0, i, d), d - 1);
                Check.due("digit " + i + " is " + d, x.read(0), d * weight[i]);
            }
        }
        DedupBlocks greatest = new DedupBlocks();
        for (int i = 0; i < 4; i++) {
            greatest.patch(0, i, 7);
        }
        Check.due("all digits 7", greatest.read(0), 4095);
    }

    private static void atFirstZero() {
        Check.sentence("at first 0");
        for (int n = 0; n < 32; n++) {
            Check.due("first write(" + n + ", 4095)", new DedupBlocks().write(n, 4095), 0);
            Check.due("first patch(" + n + ", 3, 7)", new DedupBlocks().patch(n, 3, 7), 0);
        }
    }

    private static void roomIs(int room, int content) {
        DedupBlocks x = holding(content);
        Check.due("room of " + content, x.used(), room);
        Check.due("room of " + content + " given back", x.alone(0), room);
    }

    private static void runs() {
        Check.sentence("A run is a longest row of neighbouring digits that are the same (1 to 4 runs)");
        // Every way that three neighbourings can be the same or not.
        roomIs(2, content(1, 1, 1, 1));
        roomIs(3, content(2, 1, 1, 1));
        roomIs(3, content(1, 1, 2, 2));
        roomIs(3, content(1, 1, 1, 2));
        roomIs(4, content(1, 2, 3, 3));
        roomIs(4, content(1, 2, 2, 3));
        roomIs(4, content(1, 1, 2, 3));
        roomIs(5, content(1, 2, 3, 4));
        // The same digit again, but not as a neighbour, begins a run of its own.
        roomIs(4, content(1, 2, 1, 1));
        roomIs(4, content(1, 1, 2, 1));
        roomIs(4, content(1, 2, 2, 1));
        roomIs(5, content(1, 2, 1, 2));
        // The first and the last digit are no neighbours.
        roomIs(5, content(1, 2, 3, 1));
    }

    private static void roomIsRunsPlusOne() {
        Check.sentence("The room of a content is its number of runs plus 1");
        // Digits 0 are digits like the others, at either end and between.
        roomIs(3, content(1, 0, 0, 0));
        roomIs(3, content(0, 0, 0, 1));
        roomIs(3, content(0, 1, 1, 1));
        roomIs(3, content(7, 7, 7, 0));
        roomIs(4, content(0, 7, 0, 0));
        roomIs(4, content(0, 0, 7, 0));
        roomIs(4, content(7, 0, 0, 7));
        roomIs(5, content(0, 1, 0, 1));
        roomIs(5, content(1, 0, 1, 0));
        for (int k = 1; k < 8; k++) {
            roomIs(2, cheap(k));
        }
    }

    private static void roomOfContentZero() {
        Check.sentence("that of content 0 is 0");
        roomIs(0, 0);
        Check.due("beside another one", holding(0, 9, 0).used(), 3);
        Check.due("nor does it save any", holding(0, 9, 0).saved(), 0);
    }

    private static void differentContentsOnly() {
        Check.sentence("The used room is the sum of the rooms of all the different contents that some block holds");
        Check.due("32 times the same", everywhere(dear(0)).used(), 5);
        Check.due("different ones of the same room", holding(dear(0), dear(1), dear(0), dear(2)).used(), 15);
        // The same digits in another order are another content.
        Check.due("turned round", holding(content(1, 2, 3, 4), content(4, 3, 2, 1)).used(), 10);
        DedupBlocks x = mixed();
        Check.due("each volume gives its share", x.used(), 5 + 3 + 2 + 3 + 3 + 3);
    }

    private static DedupBlocks everywhere(int content) {
        DedupBlocks x = new DedupBlocks();
        for (int n = 0; n < 32; n++) {
            x.write(n, content);
        }
        return x;
    }

    private static void neverAbove48() {
        Check.sentence("It is never greater than 48");
        DedupBlocks x = new DedupBlocks();
        for (int k = 0; k < 32; k++) {
            x.write(k, dear(k));
            x.patch(k, k % 4, 3);
            Check.that("used() after " + k + " is at most 48: " + x.used(), x.used() <= 48);
        }
        DedupBlocks y = with45Used();
        Check.due("room 3 into 3 is not too much", y.write(9, 1), 0);
        Check.due("just 48", y.used(), 48);
        DedupBlocks z = with45Used();
        Check.due("patched, room 3 into 3", z.patch(9, 0, 1), 0);
        Check.due("patched, just 48", z.used(), 48);
    }

    private static void fullByOne() {
        Check.sentence("a call that would make it greater (at its end) answers FULL: by one");
        refused("room 4 into 3 by write", Fixture::with45Used, x -> x.write(9, content(0, 1, 0, 0)), DedupBlocks.FULL);
        refused("room 4 into 3 by patch", Fixture::with45Used, x -> x.patch(9, 1, 1), DedupBlocks.FULL);
        refused("one run more by write", Fixture::full, x -> x.write(9, content(0, 1, 0, 0)), DedupBlocks.FULL);
        refused("one run more by patch", Fixture::full, x -> x.patch(9, 3, 1), DedupBlocks.FULL);
    }

    private static void fullByMore() {
        Check.sentence("a call that would make it greater (at its end) answers FULL: by more");
        for (int n = 10; n < 32; n++) {
            DedupBlocks x = full();
            Check.due("the least room into none, write(" + n + ")", x.write(n, cheap(1)), DedupBlocks.FULL);
            Check.due("the most room into none, write(" + n + ")", x.write(n, dear(9)), DedupBlocks.FULL);
            Check.due("patch(" + n + ", 0, 2)", x.patch(n, 0, 2), DedupBlocks.FULL);
            Check.due("block " + n + " is as before", x.read(n), 0);
            Check.due("used is as before", x.used(), 48);
        }
    }

    private static void countedAtTheEnd() {
        Check.sentence("would make it greater (at its end)");
        DedupBlocks x = full();
        Check.due("in place of a lone one of the same room", x.write(0, dear(9)), dear(0));
        Check.due("still 48", x.used(), 48);
        Check.due("a lone one patched to the same room", x.patch(9, 0, 2), 1);
        Check.due("48 again", x.used(), 48);
        Check.due("in place of a lone one of more room", x.write(1, 4), dear(1));
        Check.due("46", x.used(), 46);
        Check.due("the least room into 2", x.write(10, cheap(3)), 0);
        Check.due("48 once more", x.used(), 48);
    }

    private static void roomComesBack() {
        Check.sentence("FULL: There would be too little room (and is not, once some is given back)");
        DedupBlocks x = full();
        Check.due("too little", x.write(10, dear(9)), DedupBlocks.FULL);
        Check.due("three given back", x.write(9, 0), 1);
        Check.due("still too little", x.write(10, dear(9)), DedupBlocks.FULL);
        Check.due("eight given back", x.write(8, 0), dear(8));
        Check.due("enough", x.write(10, dear(9)), 0);
        Check.due("used", x.used(), 45);
    }

    private static void tidyUnseen() {
        Check.sentence("What the call tidy does can't be seen by any other call");
        State[] states = {DedupBlocks::new, Fixture::mixed, Fixture::full, () -> everywhere(9), TermsTest::erased};
        for (State state : states) {
            DedupBlocks x = state.make();
            x.tidy();
            same("after tidy", x, state.make());
            x.tidy();
            x.tidy();
            same("after tidy again and again", x, state.make());
        }
    }

    /** Empty again, after everything was in use. */
    private static DedupBlocks erased() {
        DedupBlocks x = full();
        for (int v = 0; v < 4; v++) {
            x.erase(v);
        }
        return x;
    }

    private static void tidyGivesNoRoom() {
        Check.sentence("What the call tidy does can't be seen by any other call: nor by one that changes");
        refused("write after tidy", Fixture::full, x -> {
            x.tidy();
            return x.write(10, cheap(1));
        }, DedupBlocks.FULL);
        refused("patch after tidy", Fixture::full, x -> {
            x.tidy();
            return x.patch(10, 0, 7);
        }, DedupBlocks.FULL);
        DedupBlocks x = full();
        x.write(9, 0);
        x.tidy();
        Check.due("what was given back is there", x.write(10, 8 * 8 * 8), 0);
        x.tidy();
        Check.due("the content before is known", x.write(10, 0), 512);
        x.tidy();
        Check.due("the digit before is known", x.patch(0, 3, 7), 7);
    }

    private static void noCallThrows() {
        Check.sentence("No call ever throws");
        int[] odd = {MIN, MIN + 1, -4096, -33, -9, -4, -1, 0, 1, 3, 4, 7, 8, 9, 31, 32, 33, 4095, 4096, 0x20000000, MAX};
        State[] states = {DedupBlocks::new, Fixture::mixed, Fixture::full};
        for (State state : states) {
            for (int a : odd) {
                for (int b : odd) {
                    everyCall(state.make(), a, b, odd);
                }
            }
        }
    }

    private static void everyCall(DedupBlocks x, int a, int b, int[] odd) {
        try {
            x.write(a, b);
            x.clone(a, b);
            for (int c : odd) {
                x.patch(a, b, c);
                x.spread(a, b, c);
            }
            x.read(a);
            x.holders(a);
            x.alone(a);
            x.aloneIn(a);
            x.twin(a);
            x.erase(a);
            x.tidy();
            Check.that("used() from 0 to 48", x.used() >= 0 && x.used() <= 48);
        } catch (RuntimeException | Error e) {
            Check.that("with " + a + " and " + b + " no " + e, false);
        }
    }

    private static void refusedForAnArgument() {
        Check.sentence("A refused call answers the code named and changes nothing: BAD_ARG");
        badArg("write(32, 9)", x -> x.write(32, 9));
        badArg("write(0, 4096)", x -> x.write(0, 4096));
        badArg("patch(0, 0, 8)", x -> x.patch(0, 0, 8));
        badArg("patch(0, 4, 0)", x -> x.patch(0, 4, 0));
        badArg("spread(24, 0, 9)", x -> x.spread(24, 0, 9));
        badArg("spread(24, 32, 8)", x -> x.spread(24, 32, 8));
        badArg("clone(3, 4)", x -> x.clone(3, 4));
        badArg("clone(4, 0)", x -> x.clone(4, 0));
        badArg("erase(4)", x -> x.erase(4));
    }

    private static void refusedForRoom() {
        Check.sentence("A refused call answers the code named and changes nothing: FULL");
        refused("write on an empty block", Fixture::full, x -> x.write(31, dear(31)), DedupBlocks.FULL);
        refused("write on a block in use", Fixture::full, x -> x.write(9, dear(31)), DedupBlocks.FULL);
        refused("patch of an empty block", Fixture::full, x -> x.patch(31, 3, 7), DedupBlocks.FULL);
        refused("patch of a block in use", Fixture::full, x -> x.patch(9, 1, 7), DedupBlocks.FULL);
    }

    private static void refusedAgainAndAgain() {
        Check.sentence("A refused call answers the code named and changes nothing: many times over");
        DedupBlocks x = full();
        for (int k = 0; k < 100; k++) {
            Check.due("write(10, " + dear(9) + ")", x.write(10, dear(9)), DedupBlocks.FULL);
            Check.due("patch(9, 2, 3)", x.patch(9, 2, 3), DedupBlocks.FULL);
            Check.due("write(-1, 9)", x.write(-1, 9), DedupBlocks.BAD_ARG);
        }
        same("after 300 refused calls", x, full());
    }

    private static void newObject() {
        Check.sentence("DedupBlocks(): All blocks hold content 0");
        List<String> due = new ArrayList<>();
        for (int n = 0; n < 32; n++) {
            due.addAll(List.of("read(" + n + ") = 0", "holders(0) = 32", "alone(" + n + ") = 0",
                    "twin(" + n + ") = " + (n == 0 ? 1 : 0)));
        }
        for (int v = 0; v < 4; v++) {
            due.add("aloneIn(" + v + ") = 0");
        }
        due.addAll(List.of("holders(0) = 32", "distinct() = 0", "used() = 0", "saved() = 0", "favourite() = -4"));
        List<String> got = answers(new DedupBlocks());
        Check.that(got + ", due is " + due, got.equals(due));
    }

    private static void newObjectsAreApart() {
        Check.sentence("DedupBlocks(): All blocks hold content 0, whatever other objects hold");
        DedupBlocks first = new DedupBlocks();
        DedupBlocks second = full();
        DedupBlocks third = new DedupBlocks();
        same("made before", first, new DedupBlocks());
        same("made after", third, new DedupBlocks());
        first.write(0, 9);
        same("another one's change", second, full());
    }
}
