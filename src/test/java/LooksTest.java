/** Promises 16 to 20: pileOf, machineOf, shelf, count, setting. */
public final class LooksTest {
    public static void main(String[] args) {
        pileOfFollowsAPile();
        pileOfThrows();
        machineOfFollowsAMachine();
        machineOfThrows();
        shelfTellsPlaces();
        shelfThrows();
        countFollowsTheHouse();
        countThrows();
        settingTellsValues();
        settingThrows();
        Check.end();
    }

    private static void duePile(PileTickets x, int place, int... due) {
        for (int what = 0; what <= 10; what++) {
            Check.due("pileOf(" + place + ", " + what + ")", x.pileOf(place, what), due[what]);
        }
    }

    private static void pileOfFollowsAPile() {
        PileTickets x = new PileTickets();
        x.takeIn(2, 7, 4, 3, true);
        x.takeIn(2, 6, 9, 9, false);
        x.takeIn(1, 6, 9, 2, false);
        duePile(x, 0, 100, 2, 7, 4, 3, 1, 0, -1, 0, -1, 31);
        duePile(x, 1, 101, 2, 6, 9, 9, 0, 0, -1, 2, -1, 18);
        duePile(x, 2, 102, 1, 6, 9, 2, 0, 0, -1, 1, -1, 18);
        x.load(1);
        duePile(x, 0, 100, 2, 7, 4, 3, 1, 1, 1, -1, -1, 31);
        duePile(x, 1, 101, 2, 6, 9, 9, 0, 1, 1, -1, -1, 18);
        duePile(x, 2, 102, 1, 6, 9, 2, 0, 0, -1, 0, -1, 18);
        x.load(0);
        duePile(x, 2, 102, 1, 6, 9, 2, 0, 1, 0, -1, -1, 18);
        x.pass(8);
        // Its promise is past, but a pile is not late before it stands on a shelf.
        duePile(x, 0, 100, 2, 7, 4, 3, 1, 1, 1, -1, -1, 31);
        x.pass(1);
        duePile(x, 2, 102, 1, 6, 9, 2, 0, 2, 0, -1, 9, 14);
        duePile(x, 0, 100, 2, 7, 4, 3, 1, 2, 1, -1, 9, 24);
        duePile(x, 1, 101, 2, 6, 9, 9, 0, 2, 2, -1, 9, 18);
        x.pass(200);
        duePile(x, 1, 101, 2, 6, 9, 9, 0, 2, 2, -1, 9, 18);
        x.set(0, 1);
        duePile(x, 0, 100, 2, 7, 4, 3, 1, 2, 1, -1, 9, 8);
        x.handOut(100, 1);
        duePile(x, 0, -1, -1, -1, -1, -1, -1, -1, -1, -1, -1, -1);
    }

    private static void pileOfThrows() {
        PileTickets x = new PileTickets();
        x.takeIn(0, 1, 1, 1, false);
        for (int place : new int[] {-1, 10, Integer.MAX_VALUE, Integer.MIN_VALUE}) {
            Check.dueThrow(x, "pileOf(" + place + ", 0)", Check.INDEX, () -> x.pileOf(place, 0));
            Check.dueThrow(x, "pileOf(" + place + ", 11)", Check.INDEX, () -> x.pileOf(place, 11));
        }
        for (int what : new int[] {-1, 11, Integer.MAX_VALUE, Integer.MIN_VALUE}) {
            Check.dueThrow(x, "pileOf(0, " + what + ")", Check.ARGUMENT, () -> x.pileOf(0, what));
            Check.dueThrow(x, "pileOf(9, " + what + ")", Check.ARGUMENT, () -> x.pileOf(9, what));
        }
    }

    private static void dueMachine(PileTickets x, int machine, int... due) {
        for (int what = 0; what <= 5; what++) {
            Check.due("machineOf(" + machine + ", " + what + ")", x.machineOf(machine, what), due[what]);
        }
    }

    private static void machineOfFollowsAMachine() {
        PileTickets x = new PileTickets();
        x.takeIn(0, 7, 4, 90, false);
        x.takeIn(0, 6, 9, 90, false);
        dueMachine(x, 0, 30, 0, -1, 0, -1, 0);
        x.load(0);
        dueMachine(x, 0, 30, 13, 0, 2, 9, 1);
        dueMachine(x, 1, 40, 0, -1, 0, -1, 0);
        x.pass(9);
        dueMachine(x, 0, 30, 0, -1, 0, -1, 1);
        PileTickets full = Check.fullShelves();
        dueMachine(full, 0, 60, 7, 2, 2, 10, 1);
        full.pass(100);
        dueMachine(full, 0, 60, 7, 2, 2, 10, 1);
        full.handOut(100, 0);
        dueMachine(full, 0, 60, 4, 2, 1, 10, 1);
        full.handOut(101, 1);
        dueMachine(full, 0, 60, 0, -1, 0, -1, 1);
    }

    private static void machineOfThrows() {
        PileTickets x = new PileTickets();
        for (int machine : new int[] {-1, 2, Integer.MAX_VALUE, Integer.MIN_VALUE}) {
            Check.dueThrow(x, "machineOf(" + machine + ", 0)", Check.INDEX, () -> x.machineOf(machine, 0));
            Check.dueThrow(x, "machineOf(" + machine + ", 6)", Check.INDEX, () -> x.machineOf(machine, 6));
        }
        for (int what : new int[] {-1, 6, Integer.MAX_VALUE, Integer.MIN_VALUE}) {
            Check.dueThrow(x, "machineOf(1, " + what + ")", Check.ARGUMENT, () -> x.machineOf(1, what));
        }
    }

    private static void shelfTellsPlaces() {
        PileTickets x = new PileTickets();
        x.takeIn(0, 1, 2, 9, false);
        x.takeIn(1, 1, 1, 5, false);
        x.load(1);
        x.load(0);
        Check.due("shelf(0)", x.shelf(0), -1);
        x.pass(1);
        Check.due("shelf(0)", x.shelf(0), 1);
        Check.due("shelf(1)", x.shelf(1), -1);
        x.pass(1);
        Check.due("shelf(0)", x.shelf(0), 1);
        Check.due("shelf(1)", x.shelf(1), 0);
        x.handOut(101, 0);
        Check.due("shelf(0)", x.shelf(0), -1);
        Check.due("shelf(1)", x.shelf(1), 0);
        Check.due("shelf(7)", x.shelf(7), -1);
    }

    private static void shelfThrows() {
        PileTickets x = new PileTickets();
        for (int shelf : new int[] {-1, 8, Integer.MAX_VALUE, Integer.MIN_VALUE}) {
            Check.dueThrow(x, "shelf(" + shelf + ")", Check.INDEX, () -> x.shelf(shelf));
        }
    }

    private static void dueCounts(PileTickets x, int... due) {
        for (int what = 0; what <= 10; what++) {
            Check.due("count(" + what + ")", x.count(what), due[what]);
        }
    }

    private static void countFollowsTheHouse() {
        PileTickets x = new PileTickets();
        x.takeIn(0, 1, 5, 4, false);
        x.takeIn(0, 1, 5, 5, false);
        x.takeIn(1, 4, 5, 9, true);
        dueCounts(x, 0, 3, 3, 0, 0, 3, 0, 0, 0, 0, 3);
        x.rush(2);
        x.load(0);
        dueCounts(x, 0, 3, 1, 2, 0, 3, 0, 0, 0, 0, 5);
        x.load(0);
        dueCounts(x, 0, 3, 1, 2, 0, 3, 0, 0, 0, 1, 6);
        x.pass(5);
        dueCounts(x, 5, 3, 1, 0, 2, 3, 0, 1, 0, 1, 6);
        x.handOut(100, 1);
        dueCounts(x, 5, 3, 1, 0, 2, 3, 0, 1, 0, 2, 6);
        x.handOut(100, 0);
        dueCounts(x, 5, 2, 1, 0, 1, 3, 1, 1, 3, 2, 6);
        x.handOut(101, 1);
        dueCounts(x, 5, 1, 1, 0, 0, 3, 2, 1, 6, 2, 6);
        Check.type(x, "a1/1@1");
        x.read();
        dueCounts(x, 5, 2, 2, 0, 0, 4, 2, 1, 6, 2, 6);
        x.undo();
        x.undo();
        dueCounts(x, 5, 2, 1, 0, 1, 3, 1, 1, 3, 2, 4);
    }

    private static void countThrows() {
        PileTickets x = new PileTickets();
        for (int what : new int[] {-1, 11, Integer.MAX_VALUE, Integer.MIN_VALUE}) {
            Check.dueThrow(x, "count(" + what + ")", Check.ARGUMENT, () -> x.count(what));
        }
    }

    private static void settingTellsValues() {
        PileTickets x = new PileTickets();
        Check.due("setting(0)", x.setting(0), 3);
        Check.due("setting(1)", x.setting(1), 1);
        x.set(0, 8);
        x.set(1, 0);
        Check.due("setting(0)", x.setting(0), 8);
        Check.due("setting(1)", x.setting(1), 0);
    }

    private static void settingThrows() {
        PileTickets x = new PileTickets();
        for (int setting : new int[] {-1, 2, Integer.MAX_VALUE, Integer.MIN_VALUE}) {
            Check.dueThrow(x, "setting(" + setting + ")", Check.INDEX, () -> x.setting(setting));
        }
    }
}
