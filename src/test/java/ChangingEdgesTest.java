/** A test for each sentence on an edge in promises 2 to 7, the calls that change blocks. */
final class ChangingEdgesTest extends Fixture {
    private ChangingEdgesTest() {
    }

    public static void main(String[] args) {
        writeBlockTooSmall();
        writeBlockTooLarge();
        writeContentTooSmall();
        writeContentTooLarge();
        writeLeastAndGreatest();
        writeBadArgBeforeFull();
        writeFull();
        writeHeldAlready();
        writeInPlaceOfSharedOne();
        writeZeroWhenFull();
        writeContentBefore();
        readBlockTooSmall();
        readBlockTooLarge();
        readLeastAndGreatest();
        readChangesNothing();
        patchBlockTooSmall();
        patchBlockTooLarge();
        patchPlaceTooSmall();
        patchPlaceTooLarge();
        patchDigitTooSmall();
        patchDigitTooLarge();
        patchLeastAndGreatest();
        patchOneDigitOnly();
        patchBadArgBeforeFull();
        patchFull();
        patchSharedWhenFull();
        patchIntoHeldOne();
        patchDigitBefore();
        spreadBlockTooSmall();
        spreadBlockTooLarge();
        spreadSourceTooSmall();
        spreadSourceTooLarge();
        spreadManyTooSmall();
        spreadManyTooLarge();
        spreadLeastAndGreatest();
        spreadSameVolume();
        spreadNoWrapAround();
        spreadOverItsSource();
        spreadSourceElsewhere();
        spreadWhenFull();
        spreadCountsAllThatGotIt();
        cloneVolumeTooSmall();
        cloneVolumeTooLarge();
        cloneEveryPair();
        cloneOfItself();
        cloneWhenFull();
        cloneCountsChanges();
        cloneIsNoLink();
        eraseVolumeTooSmall();
        eraseVolumeTooLarge();
        eraseOneVolume();
        eraseEmpty();
        eraseCountsOthers();
        eraseWhenFull();
        Check.end();
    }

    private static void writeBlockTooSmall() {
        Check.sentence("write: n not 0 to 31 answers BAD_ARG: too small");
        for (int n : tooSmall(0)) {
            badArg("write(" + n + ", 2)", x -> x.write(n, 2));
        }
    }

    private static void writeBlockTooLarge() {
        Check.sentence("write: n not 0 to 31 answers BAD_ARG: too large");
        for (int n : tooLarge(31)) {
            badArg("write(" + n + ", 2)", x -> x.write(n, 2));
        }
    }

    private static void writeContentTooSmall() {
        Check.sentence("write: content not 0 to 4095 answers BAD_ARG: too small");
        for (int content : tooSmall(0)) {
            badArg("write(10, " + content + ")", x -> x.write(10, content));
        }
    }

    private static void writeContentTooLarge() {
        Check.sentence("write: content not 0 to 4095 answers BAD_ARG: too large");
        for (int content : new int[] {4096, 4097, 8191, 8192, 65536, 65537, 0x20000000, 0x40000001, MAX - 1, MAX}) {
            badArg("write(10, " + content + ")", x -> x.write(10, content));
        }
    }

    private static void writeLeastAndGreatest() {
        Check.sentence("write: n 0 to 31, content 0 to 4095");
        for (int n : new int[] {0, 7, 8, 15, 16, 23, 24, 31}) {
            DedupBlocks x = new DedupBlocks();
            Check.due("write(" + n + ", 4095)", x.write(n, 4095), 0);
            Check.due("read(" + n + ")", x.read(n), 4095);
            Check.due("no other block", x.holders(0), 31);
            Check.due("write(" + n + ", 0)", x.write(n, 0), 4095);
            Check.due("read(" + n + ")", x.read(n), 0);
        }
    }

    private static void writeBadArgBeforeFull() {
        Check.sentence("write: Tested in this order: BAD_ARG; FULL");
        for (int bad : new int[] {-1, 32}) {
            refused("write(" + bad + ", dear)", Fixture::full, x -> x.write(bad, dear(9)), DedupBlocks.BAD_ARG);
        }
        for (int bad : new int[] {-1, 4096 + dear(9)}) {
            refused("write(10, " + bad + ")", Fixture::full, x -> x.write(10, bad), DedupBlocks.BAD_ARG);
        }
        refused("write(32, 4096)", Fixture::full, x -> x.write(32, 4096), DedupBlocks.BAD_ARG);
    }

    private static void writeFull() {
        Check.sentence("write: FULL");
        refused("room 4 into 3", Fixture::with45Used, x -> x.write(31, content(0, 0, 1, 0)), DedupBlocks.FULL);
        refused("room 2 into 0", Fixture::full, x -> x.write(31, cheap(7)), DedupBlocks.FULL);
        refused("room 5 in place of 3", Fixture::full, x -> x.write(9, dear(9)), DedupBlocks.FULL);
        Check.due("room 3 into 3", with45Used().write(31, 512), 0);
        Check.due("room 2 into 3", with45Used().write(31, cheap(7)), 0);
        Check.due("room 2 in place of 3", full().write(9, cheap(7)), 1);
    }

    private static void writeHeldAlready() {
        Check.sentence("write: FULL, but not for a content that some block holds");
        DedupBlocks x = full();
        for (int n = 10; n < 32; n++) {
            Check.due("write(" + n + ", dear)", x.write(n, dear(n % 9)), 0);
        }
        Check.due("still 48", x.used(), 48);
        Check.due("on the block that holds it", x.write(0, dear(0)), dear(0));
        Check.due("in place of a lone one", x.write(9, dear(0)), 1);
        Check.due("its room is given back", x.used(), 45);
    }

    private static void writeInPlaceOfSharedOne() {
        Check.sentence("write: FULL, for a content in place of one that another block holds too");
        State shared = () -> {
            DedupBlocks x = full();
            x.write(31, dear(0));
            return x;
        };
        refused("on the first holder", shared, x -> x.write(0, dear(9)), DedupBlocks.FULL);
        refused("on the last holder", shared, x -> x.write(31, cheap(1)), DedupBlocks.FULL);
    }

    private static void writeZeroWhenFull() {
        Check.sentence("write: FULL, but never for content 0");
        DedupBlocks x = full();
        Check.due("where 0 is already", x.write(31, 0), 0);
        Check.due("in place of another", x.write(0, 0), dear(0));
        Check.due("used", x.used(), 43);
    }

    private static void writeContentBefore() {
        Check.sentence("write: Otherwise the content before");
        DedupBlocks x = new DedupBlocks();
        int[] row = {5, 5, 4095, 0, 0, 4095, 8, 5};
        int before = 0;
        for (int content : row) {
            Check.due("write(17, " + content + ")", x.write(17, content), before);
            before = content;
        }
        DedupBlocks y = full();
        y.write(9, dear(9));
        Check.due("after a refused one", y.write(9, 2), 1);
    }

    private static void readBlockTooSmall() {
        Check.sentence("read: BAD_ARG if n is not 0 to 31: too small");
        for (int n : tooSmall(0)) {
            badArg("read(" + n + ")", x -> x.read(n));
        }
    }

    private static void readBlockTooLarge() {
        Check.sentence("read: BAD_ARG if n is not 0 to 31: too large");
        for (int n : tooLarge(31)) {
            badArg("read(" + n + ")", x -> x.read(n));
        }
    }

    private static void readLeastAndGreatest() {
        Check.sentence("read: The content of block number n, 0 to 31");
        DedupBlocks x = new DedupBlocks();
        x.write(0, 4095);
        x.write(31, 4094);
        Check.due("read(0)", x.read(0), 4095);
        Check.due("read(1)", x.read(1), 0);
        Check.due("read(30)", x.read(30), 0);
        Check.due("read(31)", x.read(31), 4094);
    }

    private static void readChangesNothing() {
        Check.sentence("read: The content of block number n, as often as it is asked");
        DedupBlocks x = mixed();
        for (int k = 0; k < 3; k++) {
            Check.due("read(31)", x.read(31), 4094);
        }
        same("after reading", x, mixed());
    }

    private static void patchBlockTooSmall() {
        Check.sentence("patch: n not 0 to 31 answers BAD_ARG: too small");
        for (int n : tooSmall(0)) {
            badArg("patch(" + n + ", 0, 2)", x -> x.patch(n, 0, 2));
        }
    }

    private static void patchBlockTooLarge() {
        Check.sentence("patch: n not 0 to 31 answers BAD_ARG: too large");
        for (int n : tooLarge(31)) {
            badArg("patch(" + n + ", 0, 2)", x -> x.patch(n, 0, 2));
        }
    }

    private static void patchPlaceTooSmall() {
        Check.sentence("patch: i not 0 to 3 answers BAD_ARG: too small");
        for (int i : tooSmall(0)) {
            badArg("patch(10, " + i + ", 2)", x -> x.patch(10, i, 2));
        }
    }

    private static void patchPlaceTooLarge() {
        Check.sentence("patch: i not 0 to 3 answers BAD_ARG: too large");
        for (int i : tooLarge(3)) {
            badArg("patch(10, " + i + ", 2)", x -> x.patch(10, i, 2));
        }
        // A shift by 32 is one by 0.
        badArg("patch(10, 32, 2)", x -> x.patch(10, 32, 2));
    }

    private static void patchDigitTooSmall() {
        Check.sentence("patch: d not 0 to 7 answers BAD_ARG: too small");
        for (int d : tooSmall(0)) {
            badArg("patch(10, 0, " + d + ")", x -> x.patch(10, 0, d));
            badArg("patch(9, 3, " + d + ")", x -> x.patch(9, 3, d));
        }
    }

    private static void patchDigitTooLarge() {
        Check.sentence("patch: d not 0 to 7 answers BAD_ARG: too large");
        for (int d : tooLarge(7)) {
            badArg("patch(10, 0, " + d + ")", x -> x.patch(10, 0, d));
            badArg("patch(9, 3, " + d + ")", x -> x.patch(9, 3, d));
        }
    }

    private static void patchLeastAndGreatest() {
        Check.sentence("patch: n 0 to 31, digit i (0 to 3), the value d 0 to 7");
        for (int n : new int[] {0, 31}) {
            DedupBlocks x = new DedupBlocks();
            Check.due("patch(" + n + ", 0, 7)", x.patch(n, 0, 7), 0);
            Check.due("patch(" + n + ", 3, 7)", x.patch(n, 3, 7), 0);
            Check.due("read(" + n + ")", x.read(n), content(7, 0, 0, 7));
            Check.due("patch(" + n + ", 0, 0)", x.patch(n, 0, 0), 7);
            Check.due("patch(" + n + ", 3, 0)", x.patch(n, 3, 0), 7);
            holds("patched back", x);
        }
    }

    private static void patchOneDigitOnly() {
        Check.sentence("patch: Digit i of block number n gets the value d, and no other one");
        for (int i = 0; i < 4; i++) {
            int[] low = {0, 0, 0, 0};
            int[] high = {7, 7, 7, 7};
            low[i] = 7;
            high[i] = 0;
            DedupBlocks x = holding(4095, 0, 4095, 0);
            Check.due("patch(1, " + i + ", 7)", x.patch(1, i, 7), 0);
            Check.due("patch(2, " + i + ", 0)", x.patch(2, i, 0), 7);
            holds("patched", x, 4095, content(low[0], low[1], low[2], low[3]), content(high[0], high[1], high[2], high[3]));
        }
    }

    private static void patchBadArgBeforeFull() {
        Check.sentence("patch: Tested in this order: BAD_ARG; FULL");
        refused("patch(32, 1, 7)", Fixture::full, x -> x.patch(32, 1, 7), DedupBlocks.BAD_ARG);
        refused("patch(-1, 1, 7)", Fixture::full, x -> x.patch(-1, 1, 7), DedupBlocks.BAD_ARG);
        refused("patch(9, 4, 7)", Fixture::full, x -> x.patch(9, 4, 7), DedupBlocks.BAD_ARG);
        refused("patch(9, -1, 7)", Fixture::full, x -> x.patch(9, -1, 7), DedupBlocks.BAD_ARG);
        refused("patch(9, 1, 8)", Fixture::full, x -> x.patch(9, 1, 8), DedupBlocks.BAD_ARG);
        refused("patch(9, 1, -1)", Fixture::full, x -> x.patch(9, 1, -1), DedupBlocks.BAD_ARG);
    }

    private static void patchFull() {
        Check.sentence("patch: FULL");
        refused("room 4 into 3", Fixture::with45Used, x -> x.patch(31, 2, 1), DedupBlocks.FULL);
        refused("room 3 into 0", Fixture::full, x -> x.patch(31, 0, 2), DedupBlocks.FULL);
        refused("room 4 in place of 3", Fixture::full, x -> x.patch(9, 3, 7), DedupBlocks.FULL);
        Check.due("room 3 into 3", with45Used().patch(31, 3, 1), 0);
        Check.due("room 3 in place of 3", full().patch(9, 0, 7), 1);
        Check.due("room 4 in place of 5", full().patch(0, 1, 0), 4);
        Check.due("the digit that is there", full().patch(9, 1, 0), 0);
    }

    private static void patchSharedWhenFull() {
        Check.sentence("patch: FULL, for a content in place of one that another block holds too");
        State shared = () -> {
            DedupBlocks x = full();
            x.write(31, 1);
            return x;
        };
        refused("the first holder", shared, x -> x.patch(9, 0, 2), DedupBlocks.FULL);
        refused("the last holder", shared, x -> x.patch(31, 0, 2), DedupBlocks.FULL);
        Check.due("the digit that is there", shared.make().patch(31, 0, 1), 1);
    }

    private static void patchIntoHeldOne() {
        Check.sentence("patch: FULL, but not for a content that some block holds");
        DedupBlocks x = full();
        Check.due("0 into the 1 of block 9", x.patch(31, 0, 1), 0);
        Check.due("still 48", x.used(), 48);
        Check.due("and back to 0", x.patch(31, 0, 0), 1);
        Check.due("the lone one to 0", x.patch(9, 0, 0), 1);
        Check.due("45", x.used(), 45);
    }

    private static void patchDigitBefore() {
        Check.sentence("patch: Otherwise the digit before");
        for (int i = 0; i < 4; i++) {
            DedupBlocks x = holding(content(4, 5, 6, 7));
            Check.due("patch(0, " + i + ", 1)", x.patch(0, i, 1), 4 + i);
            Check.due("patch(0, " + i + ", 1) again", x.patch(0, i, 1), 1);
            Check.due("patch(0, " + i + ", 0)", x.patch(0, i, 0), 1);
            Check.due("patch(0, " + i + ", 7)", x.patch(0, i, 7), 0);
        }
        DedupBlocks y = full();
        y.patch(9, 1, 7);
        Check.due("after a refused one", y.patch(9, 1, 0), 0);
    }

    private static void spreadBlockTooSmall() {
        Check.sentence("spread: n not 0 to 31 answers BAD_ARG: too small");
        for (int n : tooSmall(0)) {
            badArg("spread(" + n + ", 0, 8)", x -> x.spread(n, 0, 8));
        }
    }

    private static void spreadBlockTooLarge() {
        Check.sentence("spread: n not 0 to 31 answers BAD_ARG: too large");
        for (int n : tooLarge(31)) {
            badArg("spread(" + n + ", 0, 8)", x -> x.spread(n, 0, 8));
        }
    }

    private static void spreadSourceTooSmall() {
        Check.sentence("spread: m not 0 to 31 answers BAD_ARG: too small");
        for (int m : tooSmall(0)) {
            badArg("spread(0, " + m + ", 8)", x -> x.spread(0, m, 8));
        }
    }

    private static void spreadSourceTooLarge() {
        Check.sentence("spread: m not 0 to 31 answers BAD_ARG: too large");
        for (int m : tooLarge(31)) {
            badArg("spread(0, " + m + ", 8)", x -> x.spread(0, m, 8));
        }
    }

    private static void spreadManyTooSmall() {
        Check.sentence("spread: many not 1 to 8 answers BAD_ARG: too small");
        for (int many : tooSmall(1)) {
            badArg("spread(16, 0, " + many + ")", x -> x.spread(16, 0, many));
        }
    }

    private static void spreadManyTooLarge() {
        Check.sentence("spread: many not 1 to 8 answers BAD_ARG: too large");
        for (int many : tooLarge(8)) {
            badArg("spread(16, 0, " + many + ")", x -> x.spread(16, 0, many));
            // Also where fewer blocks than 8 could get it anyway.
            badArg("spread(31, 0, " + many + ")", x -> x.spread(31, 0, many));
        }
    }

    private static void spreadLeastAndGreatest() {
        Check.sentence("spread: n and m 0 to 31, many 1 to 8");
        DedupBlocks x = holding(9);
        Check.due("spread(31, 0, 1)", x.spread(31, 0, 1), 1);
        Check.due("read(31)", x.read(31), 9);
        Check.due("spread(0, 30, 1)", x.spread(0, 30, 1), 1);
        Check.due("read(0)", x.read(0), 0);
        Check.due("spread(0, 31, 8)", x.spread(0, 31, 8), 8);
        Check.due("holders(9)", x.holders(9), 9);
        for (int many = 1; many <= 8; many++) {
            DedupBlocks y = holding(9);
            Check.due("spread(16, 0, " + many + ")", y.spread(16, 0, many), many);
            for (int b = 0; b < 8; b++) {
                Check.due("block " + b + " of " + many, y.read(16 + b), b < many ? 9 : 0);
            }
        }
    }

    private static void spreadSameVolume() {
        Check.sentence("spread: as far as they are in the same volume");
        for (int n = 0; n < 32; n++) {
            for (int many = 1; many <= 8; many++) {
                DedupBlocks x = new DedupBlocks();
                int source = n < 16 ? 31 : 0;
                x.write(source, 9);
                int end = n + many < n / 8 * 8 + 8 ? n + many : n / 8 * 8 + 8;
                String call = "spread(" + n + ", " + source + ", " + many + ")";
                Check.due(call, x.spread(n, source, many), end - n);
                for (int k = 0; k < 32; k++) {
                    Check.due(call + " read(" + k + ")", x.read(k), (n <= k && k < end) || k == source ? 9 : 0);
                }
            }
        }
    }

    private static void spreadNoWrapAround() {
        Check.sentence("spread: as far as they are in the same volume, not on from its first block");
        DedupBlocks x = new DedupBlocks();
        x.write(31, 9);
        for (int v = 0; v < 4; v++) {
            Check.due("spread(" + (8 * v + 7) + ", 31, 8)", x.spread(8 * v + 7, 31, 8), 1);
            Check.due("read(" + 8 * v + ")", x.read(8 * v), 0);
        }
        Check.due("holders(9)", x.holders(9), 4);
    }

    private static void spreadOverItsSource() {
        Check.sentence("spread: get the content of block number m, which may be one of them");
        DedupBlocks first = holding(1, 2, 3, 4);
        Check.due("m first", first.spread(0, 0, 4), 4);
        holds("m first", first, 1, 1, 1, 1);
        DedupBlocks between = holding(1, 2, 3, 4);
        Check.due("m between", between.spread(0, 2, 4), 4);
        holds("m between", between, 3, 3, 3, 3);
        DedupBlocks last = holding(1, 2, 3, 4);
        Check.due("m last", last.spread(0, 3, 4), 4);
        holds("m last", last, 4, 4, 4, 4);
        DedupBlocks itself = holding(1, 2, 3, 4);
        Check.due("m alone", itself.spread(2, 2, 1), 1);
        holds("m alone", itself, 1, 2, 3, 4);
    }

    private static void spreadSourceElsewhere() {
        Check.sentence("spread: get the content of block number m, which may be in another volume or hold 0");
        DedupBlocks x = mixed();
        Check.due("from the last volume", x.spread(0, 31, 2), 2);
        Check.due("read(0)", x.read(0), 4094);
        Check.due("read(1)", x.read(1), 4094);
        Check.due("read(2)", x.read(2), 0);
        Check.due("content 0", x.spread(0, 30, 8), 8);
        Check.due("nothing left in volume 0", x.erase(0), 0);
    }

    private static void spreadWhenFull() {
        Check.sentence("spread: FULL, which it can't come to: what it hands on is held already");
        DedupBlocks x = full();
        Check.due("over empty blocks", x.spread(16, 0, 8), 8);
        Check.due("still 48", x.used(), 48);
        Check.due("over lone ones", x.spread(1, 0, 3), 3);
        Check.due("33", x.used(), 33);
        Check.due("over its own", x.spread(0, 0, 8), 8);
        Check.due("13", x.used(), 13);
    }

    private static void spreadCountsAllThatGotIt() {
        Check.sentence("spread: Otherwise how many blocks got it, also those that held it before");
        DedupBlocks x = holding(9, 9, 0, 9);
        Check.due("one of four changes", x.spread(0, 0, 4), 4);
        Check.due("none of four changes", x.spread(0, 0, 4), 4);
        Check.due("none of two changes", x.spread(30, 29, 8), 2);
    }

    private static void cloneVolumeTooSmall() {
        Check.sentence("clone: v or w not 0 to 3 answers BAD_ARG: too small");
        for (int bad : tooSmall(0)) {
            badArg("clone(" + bad + ", 0)", x -> x.clone(bad, 0));
            badArg("clone(3, " + bad + ")", x -> x.clone(3, bad));
            badArg("clone(" + bad + ", " + bad + ")", x -> x.clone(bad, bad));
        }
    }

    private static void cloneVolumeTooLarge() {
        Check.sentence("clone: v or w not 0 to 3 answers BAD_ARG: too large");
        for (int bad : tooLarge(3)) {
            badArg("clone(" + bad + ", 0)", x -> x.clone(bad, 0));
            badArg("clone(3, " + bad + ")", x -> x.clone(3, bad));
            badArg("clone(" + bad + ", " + bad + ")", x -> x.clone(bad, bad));
        }
    }

    private static void cloneEveryPair() {
        Check.sentence("clone: Volume v gets the contents of volume w, block by block");
        for (int v = 0; v < 4; v++) {
            for (int w = 0; w < 4; w++) {
                DedupBlocks x = mixed();
                DedupBlocks y = mixed();
                x.clone(v, w);
                for (int n = 0; n < 32; n++) {
                    int from = n / 8 == v ? 8 * w + n % 8 : n;
                    Check.due("clone(" + v + ", " + w + ") read(" + n + ")", x.read(n), y.read(from));
                }
            }
        }
    }

    private static void cloneOfItself() {
        Check.sentence("clone: the number of blocks of v that this changed: none if v is w");
        for (int v = 0; v < 4; v++) {
            DedupBlocks x = mixed();
            Check.due("clone(" + v + ", " + v + ")", x.clone(v, v), 0);
            same("after clone(" + v + ", " + v + ")", x, mixed());
        }
    }

    private static void cloneWhenFull() {
        Check.sentence("clone: FULL, which it can't come to: what it hands on is held already");
        DedupBlocks x = full();
        Check.due("over an empty volume", x.clone(3, 0), 8);
        Check.due("still 48", x.used(), 48);
        Check.due("an empty one over a lone one", x.clone(1, 2), 2);
        Check.due("40", x.used(), 40);
        DedupBlocks y = full();
        Check.due("over lone ones", y.clone(0, 1), 8);
        Check.due("8", y.used(), 8);
    }

    private static void cloneCountsChanges() {
        Check.sentence("clone: Otherwise the number of blocks of v that this changed");
        int[] eight = {1, 2, 3, 4, 5, 6, 7, 8};
        Check.due("all eight", holding(eight).clone(3, 0), 8);
        Check.due("all eight to 0", holding(eight).clone(0, 3), 8);
        Check.due("both empty", holding(eight).clone(1, 3), 0);
        DedupBlocks x = holding(eight);
        x.clone(2, 0);
        Check.due("the same again", x.clone(2, 0), 0);
        x.write(16, 8);
        Check.due("the first block", x.clone(2, 0), 1);
        x.write(23, 1);
        Check.due("the last block", x.clone(2, 0), 1);
        // The same contents at other places are changes all the same.
        DedupBlocks y = holding(1, 2, 0, 0, 0, 0, 0, 0, 2, 1);
        Check.due("changed round", y.clone(1, 0), 2);
    }

    private static void cloneIsNoLink() {
        Check.sentence("clone: Volume v gets the contents of volume w, as they are at that time");
        DedupBlocks x = holding(1, 2);
        x.clone(3, 0);
        x.write(0, 9);
        Check.due("w changed, v not", x.read(24), 1);
        x.patch(25, 0, 5);
        Check.due("v changed, w not", x.read(1), 2);
        x.erase(0);
        Check.due("w erased, v not", x.read(25), 5);
    }

    private static void eraseVolumeTooSmall() {
        Check.sentence("erase: BAD_ARG if v is not 0 to 3: too small");
        for (int v : tooSmall(0)) {
            badArg("erase(" + v + ")", x -> x.erase(v));
        }
    }

    private static void eraseVolumeTooLarge() {
        Check.sentence("erase: BAD_ARG if v is not 0 to 3: too large");
        for (int v : tooLarge(3)) {
            badArg("erase(" + v + ")", x -> x.erase(v));
        }
    }

    private static void eraseOneVolume() {
        Check.sentence("erase: All blocks of volume v get content 0");
        for (int v = 0; v < 4; v++) {
            DedupBlocks x = mixed();
            DedupBlocks y = mixed();
            x.erase(v);
            for (int n = 0; n < 32; n++) {
                Check.due("erase(" + v + ") read(" + n + ")", x.read(n), n / 8 == v ? 0 : y.read(n));
            }
        }
    }

    private static void eraseEmpty() {
        Check.sentence("erase: how many held another one: none in an empty volume");
        for (int v = 0; v < 4; v++) {
            Check.due("erase(" + v + ") of a new one", new DedupBlocks().erase(v), 0);
        }
        DedupBlocks x = holding(1, 2, 3);
        Check.due("beside one in use", x.erase(1), 0);
        holds("beside one in use", x, 1, 2, 3);
    }

    private static void eraseCountsOthers() {
        Check.sentence("erase: Otherwise how many held another one");
        Check.due("the first", holding(9).erase(0), 1);
        Check.due("the last", holding(0, 0, 0, 0, 0, 0, 0, 9).erase(0), 1);
        Check.due("blocks, not contents", holding(9, 9, 9, 0, 8).erase(0), 4);
        Check.due("all", holding(1, 2, 3, 4, 5, 6, 7, 8).erase(0), 8);
        DedupBlocks x = holding(9, 9);
        x.erase(0);
        Check.due("erased before", x.erase(0), 0);
    }

    private static void eraseWhenFull() {
        Check.sentence("erase: is never FULL, and gives room back");
        DedupBlocks x = full();
        Check.due("erase(3)", x.erase(3), 0);
        Check.due("48", x.used(), 48);
        Check.due("erase(1)", x.erase(1), 2);
        Check.due("40", x.used(), 40);
        Check.due("erase(0)", x.erase(0), 8);
        Check.due("0", x.used(), 0);
    }
}
