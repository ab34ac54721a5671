/** Promises 13 to 15: keep, goBack, undo. */
public final class SnapshotsTest {
    public static void main(String[] args) {
        keepTellsTheClock();
        goBackRestoresAllButTheBuffer();
        snapshotStaysAndIsReplaced();
        slotsThrow();
        undoRestoresEachStep();
        undoDropsTheLatest();
        onlySixAreSaved();
        undoLeavesBufferAndSlots();
        whatIsNotUndoableSavesNothing();
        Check.end();
    }

    private static void keepTellsTheClock() {
        PileTickets x = new PileTickets();
        Check.due("keep(0)", x.keep(0), 0);
        x.pass(33);
        Check.due("keep(1)", x.keep(1), 33);
        Check.due("count(10)", x.count(10), 1);
        Check.due("goBack(0)", x.goBack(0), 0);
        Check.due("goBack(1)", x.goBack(1), 33);
        Check.due("count(10)", x.count(10), 3);
    }

    private static void goBackRestoresAllButTheBuffer() {
        PileTickets x = Check.fullShelves();
        x.set(0, 7);
        x.set(1, 0);
        x.pass(11);
        x.handOut(103, 3);
        x.takeIn(1, 9, 30, 5, true);
        x.load(1);
        x.keep(0);
        x.keep(1);
        String kept = all(x);
        x.handOut(100, 0);
        x.handOut(100, 0);
        x.room(0, 22);
        x.takeIn(3, 3, 3, 3, false);
        x.load(0);
        x.pass(60);
        x.set(0, 2);
        x.set(1, 1);
        Check.type(x, "a1");
        Check.due("goBack(0)", x.goBack(0), 21);
        Check.dueText("the house", all(x), kept);
        Check.due("clearBuffer()", x.clearBuffer(), 2);
        Check.due("undo()", x.undo(), 5);
        Check.due("count(0)", x.count(0), 81);
        Check.due("setting(0)", x.setting(0), 2);
        Check.due("setting(1)", x.setting(1), 1);
        Check.due("machineOf(0, 0)", x.machineOf(0, 0), 22);
        Check.due("goBack(1)", x.goBack(1), 21);
        Check.dueText("the house", all(x), kept);
        // What is counted so far goes back too, tickets and shelved piles with it.
        Check.dueShare("lateShare()", x.lateShare(), 1.0 / 9);
        Check.due("handOut", x.handOut(100, 0), 17);
        Check.dueShare("lateShare()", x.lateShare(), 1.0 / 10);
        Check.due("takeIn", x.takeIn(3, 3, 3, 3, false), 111);
    }

    private static String all(PileTickets x) {
        StringBuilder text = new StringBuilder();
        for (int what = 0; what < 10; what++) {
            text.append(x.count(what)).append(' ');
        }
        for (int place = 0; place < 10; place++) {
            for (int what = 0; what <= 10; what++) {
                text.append(x.pileOf(place, what)).append(' ');
            }
        }
        for (int machine = 0; machine < 2; machine++) {
            for (int what = 0; what <= 5; what++) {
                text.append(x.machineOf(machine, what)).append(' ');
            }
        }
        for (int shelf = 0; shelf < 8; shelf++) {
            text.append(x.shelf(shelf)).append(' ');
        }
        return text.append(x.setting(0)).append(x.setting(1)).append(x.lateShare()).toString();
    }

    private static void snapshotStaysAndIsReplaced() {
        PileTickets x = new PileTickets();
        x.keep(0);
        x.pass(5);
        Check.due("goBack(0)", x.goBack(0), 0);
        x.takeIn(0, 1, 1, 1, false);
        x.pass(6);
        Check.due("goBack(0) again", x.goBack(0), 0);
        Check.due("count(5)", x.count(5), 0);
        x.pass(8);
        Check.due("keep(0)", x.keep(0), 8);
        x.pass(8);
        Check.due("goBack(0) to the new one", x.goBack(0), 8);
        Check.dueThrow(x, "goBack(1)", Check.STATE, () -> x.goBack(1));
    }

    private static void slotsThrow() {
        PileTickets x = new PileTickets();
        for (int slot : new int[] {-1, 2, Integer.MAX_VALUE, Integer.MIN_VALUE}) {
            Check.dueThrow(x, "keep(" + slot + ")", Check.ARGUMENT, () -> x.keep(slot));
            Check.dueThrow(x, "goBack(" + slot + ")", Check.ARGUMENT, () -> x.goBack(slot));
        }
        Check.dueThrow(x, "goBack(0)", Check.STATE, () -> x.goBack(0));
        Check.dueThrow(x, "goBack(1)", Check.STATE, () -> x.goBack(1));
        x.keep(1);
        Check.dueThrow(x, "goBack(0)", Check.STATE, () -> x.goBack(0));
        Check.due("goBack(1)", x.goBack(1), 0);
    }

    private static void undoRestoresEachStep() {
        PileTickets x = new PileTickets();
        String[] before = new String[6];
        x.takeIn(1, 5, 7, 6, false);
        x.takeIn(2, 5, 5, 4, true);
        x.rush(0);
        before[0] = all(x);
        x.load(1);
        before[1] = all(x);
        x.load(0);
        before[2] = all(x);
        x.pass(7);
        before[3] = all(x);
        x.handOut(100, 1);
        before[4] = all(x);
        x.takeIn(3, 2, 1, 9, true);
        before[5] = all(x);
        x.set(0, 9);
        Check.due("count(7)", x.count(7), 2);
        for (int left = 5; left >= 0; left--) {
            Check.due("undo()", x.undo(), left);
            Check.dueText("the house", all(x), before[left]);
        }
        Check.due("pileOf(0, 7)", x.pileOf(0, 7), -1);
        Check.due("count(7)", x.count(7), 0);
    }

    private static void undoDropsTheLatest() {
        PileTickets x = new PileTickets();
        x.takeIn(0, 1, 1, 1, false);
        x.takeIn(0, 2, 1, 1, false);
        x.takeIn(0, 3, 1, 1, false);
        Check.due("undo()", x.undo(), 2);
        Check.due("count(5)", x.count(5), 2);
        Check.due("takeIn", x.takeIn(0, 4, 1, 1, false), 102);
        Check.due("pileOf(2, 2)", x.pileOf(2, 2), 4);
        Check.due("undo()", x.undo(), 2);
        Check.due("undo()", x.undo(), 1);
        Check.due("undo()", x.undo(), 0);
        Check.due("count(1)", x.count(1), 0);
        Check.dueThrow(x, "undo()", Check.STATE, x::undo);
    }

    private static void onlySixAreSaved() {
        PileTickets x = new PileTickets();
        for (int time = 1; time <= 20; time++) {
            x.pass(1);
            Check.due("count(10)", x.count(10), Math.min(6, time));
        }
        for (int left = 5; left >= 0; left--) {
            Check.due("undo()", x.undo(), left);
            Check.due("count(0)", x.count(0), 14 + left);
            Check.due("count(10)", x.count(10), left);
        }
        Check.dueThrow(x, "undo()", Check.STATE, x::undo);
        Check.due("count(0)", x.count(0), 14);
    }

    private static void undoLeavesBufferAndSlots() {
        PileTickets x = new PileTickets();
        x.pass(3);
        x.keep(1);
        x.append('a');
        Check.due("undo()", x.undo(), 0);
        Check.due("count(0)", x.count(0), 0);
        Check.due("clearBuffer()", x.clearBuffer(), 1);
        Check.due("goBack(1)", x.goBack(1), 3);
        Check.due("undo()", x.undo(), 0);
        Check.due("count(0)", x.count(0), 0);
    }

    private static void whatIsNotUndoableSavesNothing() {
        PileTickets x = new PileTickets();
        x.append('a');
        x.clearBuffer();
        x.firstError();
        x.keep(0);
        x.pileOf(0, 0);
        x.machineOf(0, 0);
        x.shelf(0);
        x.setting(0);
        x.waiting(0);
        x.ifLoaded(0);
        x.endsIn();
        x.fewestLate(0);
        x.fewestLate(1);
        x.lateShare();
        x.digest();
        Check.due("count(10)", x.count(10), 0);
    }
}
