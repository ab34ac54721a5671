import java.util.function.IntSupplier;

/** Promises 13 to 15: keep, goBack, undo. */
public final class SnapshotsTest {
    public static void main(String[] args) {
        keep();
        goBack();
        undo();
        Sentences.end(13, 14, 15);
    }

    private static void keep() {
        Sentences.test(13, "Takes a snapshot, in place of the one in the slot.", SnapshotsTest::keepReplaces);
        Sentences.test(13, "`slot`: 0 or 1", SnapshotsTest::keepTakesEachSlot);
        Sentences.test(13, "Returns the clock.", SnapshotsTest::keepTellsTheClock);
        Sentences.test(13, "Throws `IllegalArgumentException` if slot is out of range", SnapshotsTest::keepThrows);
    }

    private static void goBack() {
        Sentences.test(14, "Goes back to a snapshot, which stays.", SnapshotsTest::goBackRestores);
        Sentences.test(14, "Undoable.", SnapshotsTest::goBackIsUndoable);
        Sentences.test(14, "`slot`: 0 or 1", SnapshotsTest::goBackTakesEachSlot);
        Sentences.test(14, "Returns the clock then.", SnapshotsTest::goBackTellsTheClock);
        Sentences.test(14, "Throws `IllegalArgumentException` if slot is out of range",
                SnapshotsTest::goBackThrowsOutOfRange);
        Sentences.test(14, "Throws `IllegalStateException` if there is no snapshot in it",
                SnapshotsTest::goBackThrowsWithoutSnapshot);
    }

    private static void undo() {
        Sentences.test(15, "Restores the latest saved state, and drops it.", SnapshotsTest::undoRestoresEachStep);
        Sentences.test(15, "Returns how many saved states are left.", SnapshotsTest::undoTellsHowManyAreLeft);
        Sentences.test(15, "Throws `IllegalStateException` if there is none", SnapshotsTest::undoThrows);
    }

    // ---- keep

    private static void keepReplaces() {
        PileTickets x = new PileTickets();
        x.keep(0);
        x.pass(5);
        x.keep(1);
        x.pass(3);
        x.keep(0);
        x.pass(4);
        Check.due("goBack(0) to the new one", x.goBack(0), 8);
        Check.due("goBack(1) to the other slot", x.goBack(1), 5);
        x.keep(0);
        Check.due("goBack(0) to the newest one", x.goBack(0), 5);
        PileTickets busy = Scenes.busy();
        busy.keep(0);
        String kept = Scenes.all(busy);
        busy.rush(2);
        busy.goBack(0);
        Check.dueText("the room kept in place of another", Scenes.all(busy), kept);
    }

    private static void keepTakesEachSlot() {
        PileTickets x = new PileTickets();
        x.pass(1);
        Check.due("keep(0)", x.keep(0), 1);
        x.pass(1);
        Check.due("keep(1)", x.keep(1), 2);
        Check.due("goBack(0)", x.goBack(0), 1);
        Check.due("goBack(1)", x.goBack(1), 2);
        for (int slot : Check.outside(0, 1)) {
            Check.dueThrow(x, "keep(" + slot + ")", Check.ARGUMENT, () -> x.keep(slot));
        }
    }

    private static void keepTellsTheClock() {
        PileTickets x = new PileTickets();
        Check.due("keep(0) in a new object", x.keep(0), 0);
        x.pass(33);
        Check.due("keep(1)", x.keep(1), 33);
        Check.due("count(10), as keep is not undoable", x.count(10), 1);
        Scenes.passTo(x, 99999);
        Check.due("keep(0) at the last clock", x.keep(0), 99999);
    }

    private static void keepThrows() {
        for (PileTickets x : new PileTickets[] {new PileTickets(), Scenes.busy()}) {
            for (int slot : Check.outside(0, 1)) {
                Check.dueThrow(x, "keep(" + slot + ")", Check.ARGUMENT, () -> x.keep(slot));
            }
        }
    }

    // ---- goBack

    private static void goBackRestores() {
        PileTickets x = lived();
        x.keep(0);
        String kept = Scenes.all(x);
        int refused = x.count(9);
        live(x);
        x.goBack(0);
        Check.dueText("the room", Scenes.all(x), kept);
        Check.due("count(9)", x.count(9), refused);
        live(x);
        x.goBack(0);
        // The snapshot stays, and is not what the room goes on with.
        Check.dueText("the room gone back to again", Scenes.all(x), kept);
        // What is counted so far goes back too, tickets and shelved piles with it.
        Check.dueShare("lateShare()", x.lateShare(), 1.0 / 9);
        Check.due("handOut", x.handOut(100, 0), 17);
        Check.dueShare("lateShare()", x.lateShare(), 1.0 / 10);
        Check.due("takeIn", x.takeIn(3, 3, 3, 3, false), 111);
    }

    /** A room at the clock 21 in which nothing is as it was at first. */
    private static PileTickets lived() {
        PileTickets x = Scenes.fullShelves();
        x.set(0, 7);
        x.set(1, 0);
        x.pass(11);
        x.handOut(103, 3);
        x.takeIn(1, 9, 30, 5, true);
        x.load(1);
        return x;
    }

    private static void live(PileTickets x) {
        x.handOut(100, 0);
        x.handOut(100, 0);
        x.room(0, 22);
        x.takeIn(3, 3, 3, 3, false);
        x.load(0);
        x.pass(60);
        x.set(0, 2);
        x.set(1, 1);
    }

    private static void goBackIsUndoable() {
        PileTickets x = lived();
        x.keep(0);
        live(x);
        PileTickets one = Scenes.withOneSaved(x);
        Check.dueUndoable(one, "goBack(0)", () -> one.goBack(0), 21);
        Check.due("count(0)", one.count(0), 81);
        Check.dueUndoable(one, "goBack(1) that changes nothing", () -> one.goBack(1), 81);
        one.goBack(0);
        Check.due("count(10)", one.count(10), 2);
        one.undo();
        Check.due("count(0)", one.count(0), 81);
        Check.due("setting(0)", one.setting(0), 2);
        Check.due("machineOf(0, 0)", one.machineOf(0, 0), 22);
    }

    private static void goBackTakesEachSlot() {
        PileTickets x = new PileTickets();
        x.keep(1);
        x.pass(9);
        x.keep(0);
        Check.due("goBack(1)", x.goBack(1), 0);
        Check.due("count(0)", x.count(0), 0);
        Check.due("goBack(0)", x.goBack(0), 9);
        Check.due("count(0)", x.count(0), 9);
        for (int slot : Check.outside(0, 1)) {
            Check.dueThrow(x, "goBack(" + slot + ")", Check.ARGUMENT, () -> x.goBack(slot));
        }
    }

    private static void goBackTellsTheClock() {
        PileTickets x = new PileTickets();
        x.keep(0);
        Check.due("goBack(0) at the clock 0", x.goBack(0), 0);
        Scenes.passTo(x, 99999);
        x.keep(1);
        Check.due("goBack(0) to an earlier clock", x.goBack(0), 0);
        Check.due("goBack(1) to a later clock", x.goBack(1), 99999);
        Check.dueThrow(x, "pass(1)", Check.STATE, () -> x.pass(1));
    }

    private static void goBackThrowsOutOfRange() {
        PileTickets kept = Scenes.busy();
        kept.keep(1);
        for (PileTickets x : new PileTickets[] {new PileTickets(), kept}) {
            for (int slot : Check.outside(0, 1)) {
                Check.dueThrow(x, "goBack(" + slot + ")", Check.ARGUMENT, () -> x.goBack(slot));
            }
        }
    }

    private static void goBackThrowsWithoutSnapshot() {
        PileTickets x = new PileTickets();
        x.pass(3);
        Check.dueThrow(x, "goBack(0) in a new object", Check.STATE, () -> x.goBack(0));
        Check.dueThrow(x, "goBack(1) in a new object", Check.STATE, () -> x.goBack(1));
        x.keep(1);
        Check.dueThrow(x, "goBack(0) beside a snapshot in slot 1", Check.STATE, () -> x.goBack(0));
        // The slots are no part of a saved state: undo() takes no snapshot away, and brings none.
        x.undo();
        Check.dueThrow(x, "goBack(0) behind undo()", Check.STATE, () -> x.goBack(0));
        Check.due("goBack(1) behind undo()", x.goBack(1), 3);
        Check.dueThrow(x, "goBack(0) behind goBack(1)", Check.STATE, () -> x.goBack(0));
        x.keep(0);
        x.goBack(1);
        Check.due("goBack(0) to the snapshot taken since", x.goBack(0), 3);
    }

    // ---- undo

    private static void undoRestoresEachStep() {
        PileTickets x = new PileTickets();
        x.takeIn(1, 5, 7, 6, false);
        x.takeIn(2, 5, 5, 4, true);
        IntSupplier[] steps = {() -> x.rush(0), () -> x.load(1), () -> x.load(0), () -> x.pass(7), () -> x.handOut(100, 1),
            () -> x.takeIn(3, 2, 1, 9, true)};
        // No snapshot changes meanwhile, and the buffer stays empty: the digest tells the rest.
        long[] before = new long[steps.length];
        for (int step = 0; step < steps.length; step++) {
            before[step] = digestButSaved(x);
            steps[step].getAsInt();
        }
        Check.due("count(7)", x.count(7), 2);
        for (int step = steps.length - 1; step >= 0; step--) {
            x.undo();
            Check.due("count(10)", x.count(10), step);
            Check.due("the house ahead of step " + step, digestButSaved(x), before[step]);
        }
        undoneIsGone();
    }

    /** The digest, less what count(10) adds to it. */
    private static long digestButSaved(PileTickets x) {
        long power = 1;
        int behind = 2 + 110 + 14 + 8 + 10 + 4 + 2 + 1;
        for (int value = 0; value < behind; value++) {
            power *= 31;
        }
        return x.digest() - x.count(10) * power;
    }

    private static void undoneIsGone() {
        PileTickets x = new PileTickets();
        x.takeIn(0, 1, 1, 1, false);
        x.takeIn(0, 2, 1, 1, false);
        x.takeIn(0, 3, 1, 1, false);
        x.undo();
        Check.due("count(5)", x.count(5), 2);
        Check.due("takeIn", x.takeIn(0, 4, 1, 1, false), 102);
        Check.due("pileOf(2, 2)", x.pileOf(2, 2), 4);
        x.undo();
        x.undo();
        Check.due("count(1)", x.count(1), 1);
        x.undo();
        Check.due("count(1)", x.count(1), 0);
    }

    private static void undoTellsHowManyAreLeft() {
        PileTickets x = new PileTickets();
        x.pass(1);
        Check.due("undo() of the only one", x.undo(), 0);
        for (int saved = 1; saved <= 9; saved++) {
            x.pass(1);
        }
        for (int left = 5; left >= 0; left--) {
            Check.due("undo()", x.undo(), left);
            Check.due("count(10)", x.count(10), left);
        }
        Check.due("count(0)", x.count(0), 3);
    }

    private static void undoThrows() {
        PileTickets x = new PileTickets();
        Check.dueThrow(x, "undo() in a new object", Check.STATE, x::undo);
        x.append('a');
        x.keep(0);
        x.digest();
        Check.dueThrow(x, "undo() behind calls that are not undoable", Check.STATE, x::undo);
        Check.dueThrow(x, "pass(0)", Check.ARGUMENT, () -> x.pass(0));
        Check.dueThrow(x, "undo() behind an undoable call that threw", Check.STATE, x::undo);
        for (int time = 0; time < 8; time++) {
            x.pass(1);
        }
        for (int left = 5; left >= 0; left--) {
            x.undo();
        }
        Check.dueThrow(x, "undo() behind six", Check.STATE, x::undo);
        Check.due("count(0)", x.count(0), 2);
        x.goBack(0);
        Check.due("undo() of goBack(0)", x.undo(), 0);
        Check.dueThrow(x, "undo()", Check.STATE, x::undo);
    }
}
