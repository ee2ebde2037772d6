import java.util.List;

/** One method per promise: ordinary inputs, the edges the document names, wrong inputs. */
final class PromisesTest extends Fixture {
    private static final int BAD = DedupBlocks.BAD_ARG;
    private static final int FULL = DedupBlocks.FULL;
    private static final int NONE = DedupBlocks.NONE;
    private static final int[] NO_BLOCK = {-1, 32, 33, MIN, MAX};
    private static final int[] NO_VOLUME = {-1, 4, 5, MIN, MAX, 0x20000000};
    private static final int[] NO_CONTENT = {-1, 4096, 4097, MIN, MAX};
    private static final int[] NO_DIGIT_PLACE = {-1, 4, 5, MIN, MAX};
    private static final int[] NO_DIGIT = {-1, 8, 9, MIN, MAX};
    private static final int[] NO_COUNT = {0, -1, 9, MIN, MAX};

    private PromisesTest() {
    }

    public static void main(String[] args) {
        terms();
        newObject();
        write();
        writeFull();
        read();
        patch();
        patchFull();
        spread();
        cloneVolume();
        spreadAndCloneWhenFull();
        erase();
        holders();
        distinct();
        used();
        saved();
        alone();
        aloneIn();
        twin();
        favourite();
        tidy();
        Check.end();
    }

    private static void roomIs(int content, int room) {
        Check.due("room of " + content, holding(content).used(), room);
    }

    private static void terms() {
        Check.due("BAD_ARG", DedupBlocks.BAD_ARG, -1);
        Check.due("FULL", DedupBlocks.FULL, -2);
        Check.due("NONE", DedupBlocks.NONE, -4);
        roomIs(0, 0);
        roomIs(content(7, 7, 7, 7), 2);
        roomIs(content(1, 1, 1, 1), 2);
        roomIs(content(1, 0, 0, 0), 3);
        roomIs(content(0, 0, 0, 1), 3);
        roomIs(content(2, 2, 5, 5), 3);
        roomIs(content(0, 1, 0, 0), 4);
        roomIs(content(3, 4, 4, 3), 4);
        roomIs(content(6, 6, 1, 6), 4);
        roomIs(content(0, 1, 0, 1), 5);
        roomIs(content(1, 2, 3, 4), 5);
    }

    private static void newObject() {
        DedupBlocks x = new DedupBlocks();
        holds("new", x);
        Check.due("new: used", x.used(), 0);
        new DedupBlocks().write(3, 5);
        Check.due("objects are apart", x.read(3), 0);
    }

    private static void write() {
        DedupBlocks x = new DedupBlocks();
        Check.due("write(0, 5)", x.write(0, 5), 0);
        Check.due("write(0, 4095)", x.write(0, 4095), 5);
        Check.due("write(0, 4095) again", x.write(0, 4095), 4095);
        Check.due("write(31, 4094)", x.write(31, 4094), 0);
        Check.due("read(0)", x.read(0), 4095);
        Check.due("read(31)", x.read(31), 4094);
        Check.due("write(0, 0)", x.write(0, 0), 4095);
        Check.due("write(31, 0)", x.write(31, 0), 4094);
        for (int bad : NO_BLOCK) {
            Check.due("write(" + bad + ", 1)", x.write(bad, 1), BAD);
        }
        for (int bad : NO_CONTENT) {
            Check.due("write(0, " + bad + ")", x.write(0, bad), BAD);
        }
        holds("after refused writes", x);
    }

    private static void writeFull() {
        DedupBlocks x = with45Used();
        Check.due("room 4 into 3", x.write(9, content(0, 1, 0, 0)), FULL);
        Check.due("nothing changed", x.read(9), 0);
        Check.due("nothing used", x.used(), 45);
        Check.due("room 3 into 3", x.write(9, content(1, 0, 0, 0)), 0);
        Check.due("exactly 48", x.used(), 48);
        Check.due("the cheapest into 0", x.write(10, content(1, 1, 1, 1)), FULL);
        Check.due("wrong block before FULL", x.write(32, content(1, 1, 1, 1)), BAD);
        Check.due("wrong content before FULL", x.write(10, 4096), BAD);
        Check.due("what is held takes no room", x.write(10, dear(3)), 0);
        Check.due("the same again", x.write(0, dear(0)), dear(0));
        Check.due("in place of one held alone", x.write(0, dear(20)), dear(0));
        Check.due("still 48", x.used(), 48);
        Check.due("in place of one held twice", x.write(3, dear(21)), FULL);
        Check.due("a refused one stays", x.read(3), dear(3));
        Check.due("erasing one held twice", x.write(3, 0), dear(3));
        Check.due("in place of the last one", x.write(10, dear(21)), dear(3));
    }

    private static void read() {
        DedupBlocks x = new DedupBlocks();
        for (int n = 0; n < 32; n++) {
            x.write(n, 512 * (n % 4));
        }
        for (int n = 0; n < 32; n++) {
            Check.due("read(" + n + ")", x.read(n), 512 * (n % 4));
        }
        for (int bad : NO_BLOCK) {
            Check.due("read(" + bad + ")", x.read(bad), BAD);
        }
    }

    private static void patch() {
        DedupBlocks x = new DedupBlocks();
        x.write(31, content(1, 2, 3, 4));
        Check.due("patch(31, 0, 7)", x.patch(31, 0, 7), 1);
        Check.due("digit 0", x.read(31), content(7, 2, 3, 4));
        Check.due("patch(31, 1, 6)", x.patch(31, 1, 6), 2);
        Check.due("digit 1", x.read(31), content(7, 6, 3, 4));
        Check.due("patch(31, 2, 0)", x.patch(31, 2, 0), 3);
        Check.due("digit 2", x.read(31), content(7, 6, 0, 4));
        Check.due("patch(31, 3, 5)", x.patch(31, 3, 5), 4);
        Check.due("digit 3", x.read(31), content(7, 6, 0, 5));
        Check.due("patch(31, 3, 5) again", x.patch(31, 3, 5), 5);
        Check.due("patch(0, 0, 0)", x.patch(0, 0, 0), 0);
        for (int bad : NO_BLOCK) {
            Check.due("patch(" + bad + ", 0, 1)", x.patch(bad, 0, 1), BAD);
        }
        for (int bad : NO_DIGIT_PLACE) {
            Check.due("patch(31, " + bad + ", 1)", x.patch(31, bad, 1), BAD);
        }
        for (int bad : NO_DIGIT) {
            Check.due("patch(31, 0, " + bad + ")", x.patch(31, 0, bad), BAD);
        }
        Check.due("after refused patches", x.read(31), content(7, 6, 0, 5));
        Check.due("other blocks", x.holders(0), 31);
    }

    private static void patchFull() {
        DedupBlocks x = with45Used();
        Check.due("room 4 into 3", x.patch(9, 1, 1), FULL);
        Check.due("nothing changed", x.read(9), 0);
        Check.due("room 3 into 3", x.patch(9, 0, 1), 0);
        Check.due("exactly 48", x.used(), 48);
        Check.due("one held alone, same room", x.patch(9, 0, 2), 1);
        Check.due("one held alone, more room", x.patch(9, 2, 5), FULL);
        Check.due("a refused one stays", x.read(9), 2);
        Check.due("the same digit", x.patch(9, 0, 2), 2);
        Check.due("wrong place before FULL", x.patch(9, 4, 5), BAD);
        Check.due("wrong digit before FULL", x.patch(9, 2, 8), BAD);
        Check.due("wrong block before FULL", x.patch(32, 2, 5), BAD);
        Check.due("share it", x.write(10, 2), 0);
        Check.due("one held twice, same room", x.patch(10, 0, 3), FULL);
        Check.due("into the one held", x.patch(11, 0, 2), 0);
        Check.due("down to 0", x.patch(11, 0, 0), 2);
    }

    private static void spread() {
        DedupBlocks x = holding(7, 8, 9);
        Check.due("spread(4, 1, 2)", x.spread(4, 1, 2), 2);
        holds("spread", x, 7, 8, 9, 0, 8, 8);
        Check.due("spread(0, 1, 4)", x.spread(0, 1, 4), 4);
        holds("over block m itself", x, 8, 8, 8, 8, 8, 8);
        Check.due("spread(5, 7, 1)", x.spread(5, 7, 1), 1);
        holds("of content 0", x, 8, 8, 8, 8, 8);
        Check.due("as far as the volume", x.spread(6, 0, 8), 2);
        Check.due("the last of it", x.read(7), 8);
        Check.due("not the next", x.read(8), 0);
        Check.due("just to the end", x.spread(14, 0, 2), 2);
        Check.due("one beyond the end", x.spread(14, 0, 3), 2);
        Check.due("not the next", x.read(16), 0);
        Check.due("spread(31, 0, 8)", x.spread(31, 0, 8), 1);
        Check.due("spread(16, 31, 8)", x.spread(16, 31, 8), 8);
        Check.due("same ones count too", x.spread(16, 31, 8), 8);
        Check.due("n and m the same", x.spread(24, 24, 1), 1);
        Check.due("holders", x.holders(8), 18);
        for (int bad : NO_BLOCK) {
            Check.due("spread(" + bad + ", 0, 1)", x.spread(bad, 0, 1), BAD);
            Check.due("spread(24, " + bad + ", 1)", x.spread(24, bad, 1), BAD);
        }
        for (int bad : NO_COUNT) {
            Check.due("spread(24, 0, " + bad + ")", x.spread(24, 0, bad), BAD);
        }
        Check.due("after refused spreads", x.holders(8), 18);
    }

    private static void cloneVolume() {
        DedupBlocks x = holding(1, 2, 3, 0, 5, 0, 0, 8, 1, 9, 3, 10);
        Check.due("clone(1, 0)", x.clone(1, 0), 4);
        holds("clone", x, 1, 2, 3, 0, 5, 0, 0, 8, 1, 2, 3, 0, 5, 0, 0, 8);
        Check.due("clone(1, 0) again", x.clone(1, 0), 0);
        Check.due("clone(0, 0)", x.clone(0, 0), 0);
        Check.due("clone(3, 1)", x.clone(3, 1), 5);
        Check.due("read(31)", x.read(31), 8);
        Check.due("clone(0, 2)", x.clone(0, 2), 5);
        Check.due("read(0)", x.read(0), 0);
        for (int bad : NO_VOLUME) {
            Check.due("clone(" + bad + ", 1)", x.clone(bad, 1), BAD);
            Check.due("clone(2, " + bad + ")", x.clone(2, bad), BAD);
        }
        Check.due("after refused clones", x.holders(0), 22);
        x.write(8, 4);
        Check.due("a clone goes its own way", x.read(24), 1);
    }

    private static void spreadAndCloneWhenFull() {
        DedupBlocks x = with45Used();
        x.write(9, 1);
        Check.due("full", x.used(), 48);
        Check.due("spread when full", x.spread(24, 9, 8), 8);
        Check.due("clone when full", x.clone(2, 0), 8);
        Check.due("clone over lone ones", x.clone(1, 0), 8);
        Check.due("gives room back", x.used(), 43);
        Check.due("spread over lone ones", x.spread(24, 0, 8), 8);
        Check.due("gives room back too", x.used(), 40);
    }

    private static void erase() {
        DedupBlocks x = holding(1, 0, 3, 0, 0, 0, 0, 4, 5, 6, 0, 0, 0, 0, 0, 7, 8);
        Check.due("erase(1)", x.erase(1), 3);
        holds("erase", x, 1, 0, 3, 0, 0, 0, 0, 4, 0, 0, 0, 0, 0, 0, 0, 0, 8);
        Check.due("erase(1) again", x.erase(1), 0);
        Check.due("erase(0)", x.erase(0), 3);
        x.spread(24, 16, 8);
        Check.due("erase(3)", x.erase(3), 8);
        for (int bad : NO_VOLUME) {
            Check.due("erase(" + bad + ")", x.erase(bad), BAD);
        }
        Check.due("after refused erases", x.read(16), 8);
        Check.due("erase(2)", x.erase(2), 1);
        holds("all erased", x);
        DedupBlocks full = with45Used();
        full.write(9, 1);
        Check.due("erase when full", full.erase(0), 8);
        Check.due("room again", full.used(), 8);
    }

    private static void holders() {
        DedupBlocks x = holding(4095, 1, 4095, 1, 1);
        x.write(31, 4095);
        Check.due("holders(4095)", x.holders(4095), 3);
        Check.due("holders(1)", x.holders(1), 3);
        Check.due("holders(0)", x.holders(0), 26);
        Check.due("holders(2)", x.holders(2), 0);
        Check.due("holders(0) of a new one", new DedupBlocks().holders(0), 32);
        for (int bad : NO_CONTENT) {
            Check.due("holders(" + bad + ")", x.holders(bad), BAD);
        }
    }

    private static void distinct() {
        Check.due("distinct of a new one", new DedupBlocks().distinct(), 0);
        DedupBlocks x = holding(5, 6, 5, 0, 7);
        Check.due("distinct", x.distinct(), 3);
        x.write(31, 6);
        Check.due("one more holder", x.distinct(), 3);
        x.write(31, 8);
        Check.due("one more content", x.distinct(), 4);
        x.erase(0);
        Check.due("only the last block", x.distinct(), 1);
        for (int n = 0; n < 31; n++) {
            x.write(n, 8);
        }
        Check.due("no block holds 0", x.distinct(), 1);
    }

    private static void used() {
        DedupBlocks x = new DedupBlocks();
        x.write(0, content(1, 2, 3, 4));
        x.write(31, content(1, 2, 3, 4));
        Check.due("stored once", x.used(), 5);
        x.write(8, content(1, 1, 1, 1));
        Check.due("two contents", x.used(), 7);
        x.write(0, 0);
        Check.due("one holder left", x.used(), 7);
        x.write(31, 0);
        Check.due("no holder left", x.used(), 2);
    }

    private static void saved() {
        DedupBlocks x = new DedupBlocks();
        Check.due("saved of a new one", x.saved(), 0);
        x.write(0, content(1, 2, 3, 4));
        Check.due("nothing shared", x.saved(), 0);
        x.spread(1, 0, 2);
        Check.due("three holders", x.saved(), 10);
        x.write(30, content(1, 1, 1, 1));
        x.write(31, content(1, 1, 1, 1));
        Check.due("two contents shared", x.saved(), 12);
        for (int v = 0; v < 4; v++) {
            x.spread(8 * v, 0, 8);
        }
        Check.due("saved is not bound by 48", x.saved(), 155);
    }

    private static void alone() {
        DedupBlocks x = holding(content(1, 2, 3, 4), content(1, 1, 1, 1), content(1, 2, 3, 4));
        x.write(31, content(1, 0, 0, 0));
        Check.due("alone(0)", x.alone(0), 0);
        Check.due("alone(1)", x.alone(1), 2);
        Check.due("alone(2)", x.alone(2), 0);
        Check.due("alone(3)", x.alone(3), 0);
        Check.due("alone(31)", x.alone(31), 3);
        x.write(0, 0);
        Check.due("the last holder", x.alone(2), 5);
        Check.due("nothing was given back", x.used(), 10);
        for (int n = 0; n < 31; n++) {
            x.write(n, 8);
        }
        x.write(31, 0);
        Check.due("the only 0", x.alone(31), 0);
        for (int bad : NO_BLOCK) {
            Check.due("alone(" + bad + ")", x.alone(bad), BAD);
        }
    }

    private static void aloneIn() {
        int five = content(1, 2, 3, 4);
        int two = content(1, 1, 1, 1);
        DedupBlocks x = new DedupBlocks();
        Check.due("aloneIn of a new one", x.aloneIn(0), 0);
        x.write(8, five);
        x.write(15, five);
        x.write(10, two);
        Check.due("twice in the volume counts once", x.aloneIn(1), 7);
        x.write(7, two);
        Check.due("also held before it", x.aloneIn(1), 5);
        Check.due("also held behind it", x.aloneIn(0), 0);
        x.write(16, five);
        Check.due("also held right behind it", x.aloneIn(1), 0);
        Check.due("also held before volume 2", x.aloneIn(2), 0);
        x.write(31, content(1, 0, 0, 0));
        Check.due("aloneIn(3)", x.aloneIn(3), 3);
        Check.due("nothing was given back", x.used(), 10);
        for (int bad : NO_VOLUME) {
            Check.due("aloneIn(" + bad + ")", x.aloneIn(bad), BAD);
        }
    }

    private static void twin() {
        DedupBlocks x = holding(5, 6, 5, 7, 6, 5);
        x.write(31, 7);
        Check.due("twin(0)", x.twin(0), 2);
        Check.due("twin(1)", x.twin(1), 4);
        Check.due("twin(2)", x.twin(2), 0);
        Check.due("twin(5)", x.twin(5), 0);
        Check.due("twin(3)", x.twin(3), 31);
        Check.due("twin(31)", x.twin(31), 3);
        Check.due("content 0 has twins", x.twin(6), 7);
        Check.due("content 0 has twins", x.twin(30), 6);
        x.write(31, 9);
        Check.due("no twin", x.twin(31), NONE);
        Check.due("no twin any more", x.twin(3), NONE);
        for (int bad : NO_BLOCK) {
            Check.due("twin(" + bad + ")", x.twin(bad), BAD);
        }
        for (int n = 0; n < 31; n++) {
            x.write(n, 8);
        }
        x.write(31, 0);
        Check.due("the only 0", x.twin(31), NONE);
    }

    private static void favourite() {
        DedupBlocks x = new DedupBlocks();
        Check.due("favourite of a new one", x.favourite(), NONE);
        x.write(31, 4095);
        Check.due("the only one", x.favourite(), 4095);
        x.write(0, 9);
        Check.due("a lesser one before", x.favourite(), 9);
        x.write(1, 8);
        Check.due("the least, not the first", x.favourite(), 8);
        x.write(30, 3);
        Check.due("the least, behind", x.favourite(), 3);
        x.write(29, 4095);
        Check.due("most before least", x.favourite(), 4095);
        x.write(28, 9);
        Check.due("the least of two with two", x.favourite(), 9);
        for (int v = 0; v < 4; v++) {
            x.erase(v);
        }
        Check.due("all erased", x.favourite(), NONE);
    }

    private static void tidy() {
        DedupBlocks x = full();
        x.spread(10, 9, 6);
        x.clone(2, 0);
        x.clone(3, 1);
        Check.due("no block holds 0", x.holders(0), 0);
        tidyUnseen("every block in use", x);
        tidyUnseen("gaps", mixed());
        DedupBlocks empty = new DedupBlocks();
        tidyUnseen("new", empty);
        holds("tidy of a new one", empty);
    }

    private static void tidyUnseen(String when, DedupBlocks x) {
        List<String> before = answers(x);
        x.tidy();
        x.tidy();
        List<String> after = answers(x);
        for (int i = 0; i < before.size(); i++) {
            Check.that(when + ": " + after.get(i) + " after tidy, due is " + before.get(i),
                    after.get(i).equals(before.get(i)));
        }
    }
}
