/** A test for each sentence on an edge in promises 8 to 16, the calls that change no block. */
final class AskingEdgesTest extends Fixture {
    private AskingEdgesTest() {
    }

    public static void main(String[] args) {
        holdersContentTooSmall();
        holdersContentTooLarge();
        holdersLeastAndGreatest();
        holdersNoneAndAll();
        distinctOfEmpty();
        distinctOtherThanZero();
        distinctDifferent();
        distinctAtMost();
        usedOfEmpty();
        usedWhenFull();
        usedWithTheLastHolder();
        savedOfEmpty();
        savedNothingShared();
        savedOfZero();
        savedAtMost();
        aloneBlockTooSmall();
        aloneBlockTooLarge();
        aloneOfZero();
        aloneShared();
        aloneLastHolder();
        aloneGivesBack();
        aloneInVolumeTooSmall();
        aloneInVolumeTooLarge();
        aloneInEmpty();
        aloneInTwiceInside();
        aloneInHeldElsewhere();
        aloneInGivesBack();
        askingChangesNothing();
        twinBlockTooSmall();
        twinBlockTooLarge();
        twinLeast();
        twinOtherThanItself();
        twinNone();
        twinOfZero();
        favouriteNone();
        favouriteOtherThanZero();
        favouriteMost();
        favouriteOfSeveralTheLeast();
        favouriteBlocksNotRoom();
        tidyOfEmptyAndFull();
        Check.end();
    }

    private static void holdersContentTooSmall() {
        Check.sentence("holders: BAD_ARG if it is not 0 to 4095: too small");
        for (int content : tooSmall(0)) {
            badArg("holders(" + content + ")", x -> x.holders(content));
        }
    }

    private static void holdersContentTooLarge() {
        Check.sentence("holders: BAD_ARG if it is not 0 to 4095: too large");
        for (int content : new int[] {4096, 4097, 8191, 8192, 65536, 65537, 0x20000000, MAX - 1, MAX}) {
            badArg("holders(" + content + ")", x -> x.holders(content));
        }
    }

    private static void holdersLeastAndGreatest() {
        Check.sentence("holders: How many blocks hold this content, 0 to 4095");
        DedupBlocks x = holding(4095, 4095);
        x.write(31, 4095);
        Check.due("holders(4095)", x.holders(4095), 3);
        Check.due("holders(0)", x.holders(0), 29);
    }

    private static void holdersNoneAndAll() {
        Check.sentence("holders: How many blocks hold this content: none, all");
        DedupBlocks x = holding(9);
        Check.due("none ever", x.holders(8), 0);
        x.write(0, 8);
        Check.due("none any more", x.holders(9), 0);
        Check.due("new: 0", new DedupBlocks().holders(0), 32);
        DedupBlocks y = everywhere(9);
        Check.due("all", y.holders(9), 32);
        Check.due("none holds 0", y.holders(0), 0);
        DedupBlocks z = full();
        z.write(10, dear(9));
        Check.due("none after a refused write", z.holders(dear(9)), 0);
    }

    private static DedupBlocks everywhere(int content) {
        DedupBlocks x = new DedupBlocks();
        for (int n = 0; n < 32; n++) {
            x.write(n, content);
        }
        return x;
    }

    private static void distinctOfEmpty() {
        Check.sentence("distinct: of no block in use");
        Check.due("new", new DedupBlocks().distinct(), 0);
        DedupBlocks x = holding(1, 2);
        x.erase(0);
        Check.due("erased", x.distinct(), 0);
    }

    private static void distinctOtherThanZero() {
        Check.sentence("distinct: The number of different contents, other than 0");
        Check.due("with 0", holding(1, 0, 2).distinct(), 2);
        Check.due("without 0", everywhere(9).distinct(), 1);
        DedupBlocks x = everywhere(9);
        x.write(0, 0);
        Check.due("0 on the first block alone", x.distinct(), 1);
        x.write(0, 8);
        x.write(31, 0);
        Check.due("0 on the last block alone", x.distinct(), 2);
    }

    private static void distinctDifferent() {
        Check.sentence("distinct: The number of different contents that some block holds");
        Check.due("mixed", mixed().distinct(), 6);
        Check.due("full", full().distinct(), 10);
        DedupBlocks x = holding(5, 5, 6);
        x.write(31, 5);
        Check.due("held thrice", x.distinct(), 2);
        x.write(2, 5);
        Check.due("its last holder gone", x.distinct(), 1);
    }

    private static void distinctAtMost() {
        Check.sentence("distinct: as many as 48 has room for");
        // Seven of room 2 and eleven of room 3 take 47, and there is no content of room 1.
        DedupBlocks x = new DedupBlocks();
        for (int k = 1; k <= 7; k++) {
            x.write(k, cheap(k));
        }
        for (int k = 1; k <= 7; k++) {
            x.write(7 + k, k);
        }
        for (int k = 1; k <= 4; k++) {
            x.write(14 + k, 512 * k);
        }
        Check.due("distinct", x.distinct(), 18);
        Check.due("used", x.used(), 47);
        Check.due("no other one fits", x.write(31, 512 * 5), DedupBlocks.FULL);
        Check.due("distinct after that", x.distinct(), 18);
    }

    private static void usedOfEmpty() {
        Check.sentence("used: The used room: none");
        Check.due("new", new DedupBlocks().used(), 0);
        DedupBlocks x = full();
        x.erase(0);
        x.erase(1);
        Check.due("erased", x.used(), 0);
    }

    private static void usedWhenFull() {
        Check.sentence("used: The used room: 48");
        DedupBlocks x = full();
        Check.due("full", x.used(), 48);
        x.write(10, cheap(1));
        Check.due("after a refused write", x.used(), 48);
        x.patch(10, 1, 1);
        Check.due("after a refused patch", x.used(), 48);
        x.clone(3, 0);
        x.clone(2, 1);
        Check.due("everything twice", x.used(), 48);
    }

    private static void usedWithTheLastHolder() {
        Check.sentence("used: contents that some block holds, up to the last holder");
        DedupBlocks x = holding(dear(0), dear(0));
        x.write(31, dear(0));
        x.write(0, 0);
        Check.due("two left", x.used(), 5);
        x.write(1, 0);
        Check.due("one left", x.used(), 5);
        x.write(31, 0);
        Check.due("none left", x.used(), 0);
    }

    private static void savedOfEmpty() {
        Check.sentence("saved: of no block in use");
        Check.due("new", new DedupBlocks().saved(), 0);
        DedupBlocks x = holding(9, 9);
        x.erase(0);
        Check.due("erased", x.saved(), 0);
    }

    private static void savedNothingShared() {
        Check.sentence("saved: less the used room: nothing if nothing is shared");
        Check.due("one", holding(9).saved(), 0);
        Check.due("full", full().saved(), 0);
    }

    private static void savedOfZero() {
        Check.sentence("saved: The sum of the rooms of the contents of all blocks, 0 for content 0");
        Check.due("30 times 0", holding(dear(0), dear(0)).saved(), 5);
        Check.due("mixed", mixed().saved(), 5 + 2 * 3 + 2 + 3);
    }

    private static void savedAtMost() {
        Check.sentence("saved: The sum of the rooms of the contents of all blocks, which may pass 48");
        Check.due("32 times room 5", everywhere(dear(0)).saved(), 155);
        DedupBlocks x = full();
        x.clone(2, 0);
        x.clone(3, 0);
        Check.due("two clones of eight of room 5", x.saved(), 80);
    }

    private static void aloneBlockTooSmall() {
        Check.sentence("alone: BAD_ARG if n is not 0 to 31: too small");
        for (int n : tooSmall(0)) {
            badArg("alone(" + n + ")", x -> x.alone(n));
        }
    }

    private static void aloneBlockTooLarge() {
        Check.sentence("alone: BAD_ARG if n is not 0 to 31: too large");
        for (int n : tooLarge(31)) {
            badArg("alone(" + n + ")", x -> x.alone(n));
        }
    }

    private static void aloneOfZero() {
        Check.sentence("alone: The room that would be given back: none by a block that holds 0");
        Check.due("one of many", new DedupBlocks().alone(0), 0);
        DedupBlocks x = everywhere(9);
        x.write(31, 0);
        Check.due("the only one", x.alone(31), 0);
    }

    private static void aloneShared() {
        Check.sentence("alone: The room that would be given back: none if another block holds it too");
        DedupBlocks x = holding(dear(0), dear(0));
        x.write(31, dear(0));
        for (int n : new int[] {0, 1, 31}) {
            Check.due("alone(" + n + ")", x.alone(n), 0);
        }
        DedupBlocks y = holding(0, dear(0));
        y.write(30, dear(0));
        Check.due("in another volume, before", y.alone(30), 0);
        Check.due("in another volume, behind", y.alone(1), 0);
    }

    private static void aloneLastHolder() {
        Check.sentence("alone: The room that would be given back by the last holder");
        Check.due("room 2", holding(cheap(1)).alone(0), 2);
        Check.due("room 3", holding(1).alone(0), 3);
        Check.due("room 4", holding(9 * 8).alone(0), 4);
        Check.due("room 5", holding(dear(0)).alone(0), 5);
        DedupBlocks x = new DedupBlocks();
        x.write(31, dear(0));
        Check.due("alone(31)", x.alone(31), 5);
        x.write(0, dear(0));
        x.write(31, 0);
        Check.due("alone(0)", x.alone(0), 5);
        Check.due("alone(31) now", x.alone(31), 0);
    }

    private static void aloneGivesBack() {
        Check.sentence("alone: The room that would be given back if block number n got content 0");
        State[] states = {Fixture::mixed, Fixture::full};
        for (State state : states) {
            for (int n = 0; n < 32; n++) {
                DedupBlocks x = state.make();
                int before = x.used();
                int told = x.alone(n);
                x.write(n, 0);
                Check.due("alone(" + n + ")", told, before - x.used());
            }
        }
    }

    private static void aloneInVolumeTooSmall() {
        Check.sentence("aloneIn: BAD_ARG if v is not 0 to 3: too small");
        for (int v : tooSmall(0)) {
            badArg("aloneIn(" + v + ")", x -> x.aloneIn(v));
        }
    }

    private static void aloneInVolumeTooLarge() {
        Check.sentence("aloneIn: BAD_ARG if v is not 0 to 3: too large");
        for (int v : tooLarge(3)) {
            badArg("aloneIn(" + v + ")", x -> x.aloneIn(v));
        }
    }

    private static void aloneInEmpty() {
        Check.sentence("aloneIn: The room that would be given back: none by an empty volume");
        DedupBlocks x = holding(1, 2);
        for (int v = 1; v < 4; v++) {
            Check.due("aloneIn(" + v + ")", x.aloneIn(v), 0);
        }
    }

    private static void aloneInTwiceInside() {
        Check.sentence("aloneIn: The room that would be given back: once for what the volume holds several times");
        Check.due("twice", holding(dear(0), dear(0)).aloneIn(0), 5);
        int[] eight = {9, 9, 9, 9, 9, 9, 9, 9};
        Check.due("eight times", holding(eight).aloneIn(0), 3);
        Check.due("two contents", holding(9, 1, 9, 1, 0, 0, 0, 1).aloneIn(0), 6);
        DedupBlocks x = new DedupBlocks();
        x.write(24, dear(0));
        x.write(31, dear(0));
        Check.due("first and last of the last volume", x.aloneIn(3), 5);
    }

    private static void aloneInHeldElsewhere() {
        Check.sentence("aloneIn: The room that would be given back: none for what another volume holds too");
        for (int v = 0; v < 4; v++) {
            for (int n = 0; n < 32; n++) {
                DedupBlocks x = new DedupBlocks();
                x.write(8 * v + 3, dear(0));
                x.write(n, dear(0));
                Check.due("also on " + n + ": aloneIn(" + v + ")", x.aloneIn(v), n / 8 == v ? 5 : 0);
            }
        }
    }

    private static void aloneInGivesBack() {
        Check.sentence("aloneIn: The room that would be given back if all blocks of volume v got content 0");
        State[] states = {DedupBlocks::new, Fixture::mixed, Fixture::full};
        for (State state : states) {
            for (int v = 0; v < 4; v++) {
                DedupBlocks x = state.make();
                int before = x.used();
                int told = x.aloneIn(v);
                x.erase(v);
                Check.due("aloneIn(" + v + ")", told, before - x.used());
            }
        }
        Check.due("mixed, volume 0", mixed().aloneIn(0), 2);
        Check.due("full, volume 0", full().aloneIn(0), 40);
        Check.due("full, volume 1", full().aloneIn(1), 8);
    }

    private static void askingChangesNothing() {
        Check.sentence("alone, aloneIn: would be given back if");
        DedupBlocks x = mixed();
        answers(x);
        same("after all was asked", x, mixed());
        DedupBlocks y = full();
        answers(y);
        Check.due("no room was given back", y.write(31, cheap(1)), DedupBlocks.FULL);
    }

    private static void twinBlockTooSmall() {
        Check.sentence("twin: BAD_ARG if n is not 0 to 31: too small");
        for (int n : tooSmall(0)) {
            badArg("twin(" + n + ")", x -> x.twin(n));
        }
    }

    private static void twinBlockTooLarge() {
        Check.sentence("twin: BAD_ARG if n is not 0 to 31: too large");
        for (int n : tooLarge(31)) {
            badArg("twin(" + n + ")", x -> x.twin(n));
        }
    }

    private static void twinLeast() {
        Check.sentence("twin: The least number of a block that holds the same content as block number n");
        DedupBlocks x = new DedupBlocks();
        for (int n : new int[] {3, 12, 20, 31}) {
            x.write(n, 9);
        }
        Check.due("of the least", x.twin(3), 12);
        Check.due("of the next", x.twin(12), 3);
        Check.due("of one behind", x.twin(20), 3);
        Check.due("of the last", x.twin(31), 3);
        DedupBlocks y = new DedupBlocks();
        y.write(0, 9);
        y.write(31, 9);
        Check.due("the last of the first", y.twin(0), 31);
        Check.due("the first of the last", y.twin(31), 0);
    }

    private static void twinOtherThanItself() {
        Check.sentence("twin: other than n");
        DedupBlocks x = everywhere(9);
        for (int n = 0; n < 32; n++) {
            Check.due("twin(" + n + ")", x.twin(n), n == 0 ? 1 : 0);
        }
    }

    private static void twinNone() {
        Check.sentence("twin: NONE if there is none");
        DedupBlocks x = holding(1, 2, 3, 4, 5, 6, 7, 8);
        for (int n = 0; n < 8; n++) {
            Check.due("twin(" + n + ")", x.twin(n), DedupBlocks.NONE);
        }
        x.write(31, 9);
        Check.due("of the last block", x.twin(31), DedupBlocks.NONE);
        x.write(31, 1);
        x.write(31, 9);
        Check.due("none any more", x.twin(0), DedupBlocks.NONE);
        // The same digits in another order, or the same room, make no twin.
        Check.due("turned round", holding(content(1, 2, 3, 4), content(4, 3, 2, 1)).twin(0), DedupBlocks.NONE);
    }

    private static void twinOfZero() {
        Check.sentence("twin: content 0 is a content like the others");
        Check.due("new", new DedupBlocks().twin(31), 0);
        DedupBlocks x = everywhere(9);
        x.write(31, 0);
        Check.due("the only one", x.twin(31), DedupBlocks.NONE);
        x.write(30, 0);
        Check.due("one of two", x.twin(31), 30);
        Check.due("the other", x.twin(30), 31);
    }

    private static void favouriteNone() {
        Check.sentence("favourite: NONE if all blocks hold 0");
        Check.due("new", new DedupBlocks().favourite(), DedupBlocks.NONE);
        DedupBlocks x = holding(9);
        Check.due("one block is enough", x.favourite(), 9);
        x.write(0, 0);
        Check.due("none again", x.favourite(), DedupBlocks.NONE);
    }

    private static void favouriteOtherThanZero() {
        Check.sentence("favourite: The content, other than 0");
        DedupBlocks x = new DedupBlocks();
        x.write(31, 4095);
        Check.due("31 blocks hold 0", x.favourite(), 4095);
        DedupBlocks y = everywhere(9);
        y.erase(0);
        y.erase(1);
        Check.due("16 hold 0, 16 hold 9", y.favourite(), 9);
    }

    private static void favouriteMost() {
        Check.sentence("favourite: that most blocks hold");
        Check.due("the greater one", holding(1, 9, 9).favourite(), 9);
        Check.due("the lesser one", holding(9, 1, 1).favourite(), 1);
        Check.due("a lesser one behind", holding(9, 9, 1).favourite(), 9);
        Check.due("a greater one behind", holding(1, 1, 9).favourite(), 1);
        Check.due("by one block", holding(1, 9, 1, 9, 9).favourite(), 9);
        Check.due("all blocks", everywhere(4095).favourite(), 4095);
        DedupBlocks x = holding(1, 1);
        x.write(29, 4095);
        x.write(30, 4095);
        x.write(31, 4095);
        Check.due("the last blocks", x.favourite(), 4095);
        x.write(31, 1);
        Check.due("no longer", x.favourite(), 1);
    }

    private static void favouriteOfSeveralTheLeast() {
        Check.sentence("favourite: of several the least");
        Check.due("rising", holding(1, 2, 3).favourite(), 1);
        Check.due("falling", holding(3, 2, 1).favourite(), 1);
        Check.due("between", holding(3, 1, 2).favourite(), 1);
        Check.due("two of two each, and a lesser one", holding(9, 8, 1, 8, 9).favourite(), 8);
        Check.due("the greatest contents", holding(4095, 4094).favourite(), 4094);
        DedupBlocks x = everywhere(4095);
        for (int n = 16; n < 32; n++) {
            x.write(n, 4094);
        }
        Check.due("16 each", x.favourite(), 4094);
    }

    private static void favouriteBlocksNotRoom() {
        Check.sentence("favourite: that most blocks hold, whatever room it takes");
        Check.due("twice room 2", holding(dear(0), cheap(1), cheap(1)).favourite(), cheap(1));
        Check.due("once each", holding(cheap(7), dear(0)).favourite(), dear(0));
    }

    private static void tidyOfEmptyAndFull() {
        Check.sentence("tidy: Housekeeping: of an empty object, a full one, after each change");
        State[] states = {DedupBlocks::new, Fixture::mixed, Fixture::full};
        for (State state : states) {
            DedupBlocks x = state.make();
            DedupBlocks y = state.make();
            Call[] changes = {a -> a.write(9, 2), a -> a.patch(31, 3, 7), a -> a.spread(6, 9, 4), a -> a.clone(2, 0),
                a -> a.erase(1), a -> a.write(15, dear(20)), a -> a.write(14, dear(21)), a -> a.write(32, 1)};
            for (Call change : changes) {
                x.tidy();
                Check.due("change after tidy", change.on(x), change.on(y));
                x.tidy();
            }
            same("tidy between all changes", x, y);
        }
    }
}
