/** Promises 5 to 8: load, room, pass, set. */
public final class MachinesTest {
    public static void main(String[] args) {
        loadTakesOneColourInOrder();
        loadPassesOverWhatIsTooHeavy();
        loadRunsAsLongAsTheLongest();
        loadIsRefused();
        loadThrows();
        roomChanges();
        roomThrows();
        passPutsPilesOnShelves();
        passLooksAtMachineZeroFirst();
        passLooksAtEachMinute();
        passThrows();
        setChanges();
        setThrows();
        Check.end();
    }

    private static void loadTakesOneColourInOrder() {
        PileTickets x = new PileTickets();
        x.takeIn(1, 10, 5, 40, false);
        x.takeIn(0, 10, 5, 30, false);
        x.takeIn(1, 15, 5, 20, false);
        x.takeIn(1, 6, 5, 50, false);
        x.takeIn(1, 5, 5, 60, false);
        Check.due("load(0)", x.load(0), 30);
        int[] state = {1, 0, 1, 0, 1};
        for (int place = 0; place < 5; place++) {
            Check.due("pileOf(" + place + ", 6)", x.pileOf(place, 6), state[place]);
            Check.due("pileOf(" + place + ", 7)", x.pileOf(place, 7), state[place] == 1 ? 0 : -1);
        }
        Check.due("machineOf(0, 1)", x.machineOf(0, 1), 30);
        Check.due("machineOf(0, 2)", x.machineOf(0, 2), 1);
        Check.due("machineOf(0, 3)", x.machineOf(0, 3), 3);
        Check.due("machineOf(0, 5)", x.machineOf(0, 5), 1);
        Check.due("load(1)", x.load(1), 10);
        Check.due("pileOf(1, 7)", x.pileOf(1, 7), 1);
        Check.due("machineOf(1, 2)", x.machineOf(1, 2), 0);
        Check.due("count(3)", x.count(3), 4);
    }

    private static void loadPassesOverWhatIsTooHeavy() {
        PileTickets x = new PileTickets();
        x.room(0, 10);
        x.takeIn(2, 11, 5, 10, true);
        x.takeIn(3, 10, 5, 10, true);
        x.takeIn(2, 4, 5, 5, false);
        Check.due("load(0)", x.load(0), 10);
        Check.due("machineOf(0, 2)", x.machineOf(0, 2), 3);
        Check.due("waiting(0)", x.waiting(0), 0);
        Check.due("load(1)", x.load(1), 15);
    }

    private static void loadRunsAsLongAsTheLongest() {
        PileTickets x = new PileTickets();
        x.pass(100);
        x.takeIn(2, 1, 17, 10, true);
        x.takeIn(2, 1, 23, 10, true);
        x.takeIn(2, 1, 9, 10, true);
        x.takeIn(1, 1, 60, 10, false);
        x.load(1);
        Check.due("machineOf(1, 4)", x.machineOf(1, 4), 123);
        Check.due("endsIn()", x.endsIn(), 23);
        Check.due("pass(22)", x.pass(22), 0);
        Check.due("machineOf(1, 3)", x.machineOf(1, 3), 3);
        Check.due("endsIn()", x.endsIn(), 1);
        Check.due("pass(1)", x.pass(1), 3);
        Check.due("machineOf(1, 4)", x.machineOf(1, 4), -1);
        Check.due("machineOf(1, 5)", x.machineOf(1, 5), 1);
        Check.due("load(1)", x.load(1), 1);
        Check.due("machineOf(1, 5)", x.machineOf(1, 5), 2);
        Check.due("machineOf(1, 4)", x.machineOf(1, 4), 183);
    }

    private static void loadIsRefused() {
        PileTickets x = new PileTickets();
        Check.due("load without piles", x.load(0), -1);
        x.room(0, 10);
        x.takeIn(0, 11, 5, 5, false);
        Check.due("load of a pile too heavy", x.load(0), -1);
        Check.due("count(9)", x.count(9), 2);
        Check.due("machineOf(0, 5)", x.machineOf(0, 5), 0);
        x.takeIn(0, 1, 5, 5, false);
        x.takeIn(1, 1, 5, 5, false);
        Check.due("load(0)", x.load(0), 1);
        Check.due("load of a running machine", x.load(0), -1);
        Check.due("count(9)", x.count(9), 3);
        Check.due("count(10)", x.count(10), 6);
        Check.due("undo()", x.undo(), 5);
        Check.due("count(9)", x.count(9), 2);
        PileTickets full = Check.fullShelves();
        full.undo();
        full.pass(240);
        Check.due("load of an ended machine with piles", full.load(0), -1);
        Check.due("count(9)", full.count(9), 1);
    }

    private static void loadThrows() {
        PileTickets x = new PileTickets();
        x.takeIn(0, 1, 5, 5, false);
        for (int machine : new int[] {-1, 2, Integer.MAX_VALUE, Integer.MIN_VALUE}) {
            Check.dueThrow(x, "load(" + machine + ")", Check.INDEX, () -> x.load(machine));
        }
    }

    private static void roomChanges() {
        PileTickets x = new PileTickets();
        Check.due("room(0, 10)", x.room(0, 10), 30);
        Check.due("room(0, 60)", x.room(0, 60), 10);
        Check.due("room(1, 60)", x.room(1, 60), 40);
        Check.due("room(1, 10)", x.room(1, 10), 60);
        Check.due("machineOf(0, 0)", x.machineOf(0, 0), 60);
        Check.due("machineOf(1, 0)", x.machineOf(1, 0), 10);
        Check.due("room(1, 10)", x.room(1, 10), 10);
        Check.due("count(10)", x.count(10), 5);
        x.undo();
        x.undo();
        Check.due("machineOf(1, 0)", x.machineOf(1, 0), 60);
    }

    private static void roomThrows() {
        PileTickets x = new PileTickets();
        x.takeIn(0, 1, 5, 5, false);
        x.load(1);
        for (int machine : new int[] {-1, 2, Integer.MAX_VALUE, Integer.MIN_VALUE}) {
            Check.dueThrow(x, "room(" + machine + ", 9)", Check.INDEX, () -> x.room(machine, 9));
            Check.dueThrow(x, "room(" + machine + ", 10)", Check.INDEX, () -> x.room(machine, 10));
        }
        for (int room : new int[] {9, 61, -1, 0, Integer.MAX_VALUE, Integer.MIN_VALUE}) {
            Check.dueThrow(x, "room(0, " + room + ")", Check.ARGUMENT, () -> x.room(0, room));
            Check.dueThrow(x, "room(1, " + room + ")", Check.ARGUMENT, () -> x.room(1, room));
        }
        Check.dueThrow(x, "room of a running machine", Check.STATE, () -> x.room(1, 40));
        Check.due("room of the idle one", x.room(0, 31), 30);
        PileTickets full = Check.fullShelves();
        Check.dueThrow(full, "room of an ended machine with piles", Check.STATE, () -> full.room(0, 40));
    }

    private static void passPutsPilesOnShelves() {
        PileTickets x = new PileTickets();
        x.takeIn(0, 1, 5, 5, false);
        x.takeIn(0, 1, 5, 4, false);
        x.takeIn(1, 1, 8, 9, false);
        x.load(0);
        x.load(1);
        Check.due("pass(4)", x.pass(4), 0);
        Check.due("pass(1)", x.pass(1), 2);
        Check.due("shelf(0)", x.shelf(0), 0);
        Check.due("shelf(1)", x.shelf(1), 1);
        Check.due("pileOf(0, 9)", x.pileOf(0, 9), 5);
        Check.due("pileOf(0, 6)", x.pileOf(0, 6), 2);
        Check.due("pileOf(1, 7)", x.pileOf(1, 7), 1);
        Check.due("count(7)", x.count(7), 1);
        x.handOut(100, 0);
        Check.due("pass(240)", x.pass(240), 1);
        Check.due("shelf(0)", x.shelf(0), 2);
        Check.due("pileOf(2, 9)", x.pileOf(2, 9), 8);
        Check.due("count(7)", x.count(7), 1);
        Check.due("count(0)", x.count(0), 245);
        Check.due("undo()", x.undo(), 6 - 1);
        Check.due("count(0)", x.count(0), 5);
        Check.due("pileOf(2, 6)", x.pileOf(2, 6), 1);
    }

    private static void passLooksAtMachineZeroFirst() {
        PileTickets x = new PileTickets();
        x.takeIn(0, 1, 5, 5, false);
        x.takeIn(1, 1, 5, 6, false);
        x.load(1);
        x.load(0);
        Check.due("pass(5)", x.pass(5), 2);
        Check.due("shelf(0)", x.shelf(0), 1);
        Check.due("shelf(1)", x.shelf(1), 0);
    }

    private static void passLooksAtEachMinute() {
        PileTickets x = new PileTickets();
        x.takeIn(0, 1, 6, 5, false);
        x.takeIn(1, 1, 5, 6, false);
        x.load(0);
        x.load(1);
        Check.due("pass(9)", x.pass(9), 2);
        Check.due("shelf(0)", x.shelf(0), 1);
        Check.due("shelf(1)", x.shelf(1), 0);
        Check.due("pileOf(0, 9)", x.pileOf(0, 9), 6);
        Check.due("pileOf(1, 9)", x.pileOf(1, 9), 5);
        Check.due("count(7)", x.count(7), 1);
    }

    private static void passThrows() {
        PileTickets x = new PileTickets();
        int[] wrong = {0, 241, -1, Integer.MAX_VALUE, Integer.MIN_VALUE};
        for (int minutes : wrong) {
            Check.dueThrow(x, "pass(" + minutes + ")", Check.ARGUMENT, () -> x.pass(minutes));
        }
        for (int time = 0; time < 416; time++) {
            x.pass(240);
        }
        Check.due("count(0)", x.count(0), 99840);
        Check.dueThrow(x, "pass(160)", Check.STATE, () -> x.pass(160));
        Check.dueThrow(x, "pass(240)", Check.STATE, () -> x.pass(240));
        Check.due("pass(159)", x.pass(159), 0);
        Check.due("count(0)", x.count(0), 99999);
        Check.dueThrow(x, "pass(1)", Check.STATE, () -> x.pass(1));
        for (int minutes : wrong) {
            Check.dueThrow(x, "pass(" + minutes + ")", Check.ARGUMENT, () -> x.pass(minutes));
        }
        Check.due("takeIn", x.takeIn(0, 1, 1, 999, false), 100);
        Check.due("pileOf(0, 4)", x.pileOf(0, 4), 100998);
        Check.due("load", x.load(0), 1);
        Check.due("endsIn()", x.endsIn(), 1);
    }

    private static void setChanges() {
        PileTickets x = new PileTickets();
        x.takeIn(0, 3, 1, 5, false);
        x.takeIn(0, 3, 1, 9, true);
        Check.due("set(0, 9)", x.set(0, 9), 3);
        Check.due("setting(0)", x.setting(0), 9);
        Check.due("pileOf(0, 10)", x.pileOf(0, 10), 27);
        Check.due("set(0, 1)", x.set(0, 1), 9);
        Check.due("waiting(0)", x.waiting(0), 1);
        Check.due("set(1, 0)", x.set(1, 0), 1);
        Check.due("setting(1)", x.setting(1), 0);
        Check.due("setting(0)", x.setting(0), 1);
        Check.due("waiting(0)", x.waiting(0), 0);
        Check.due("pileOf(1, 10) is a rush's", x.pileOf(1, 10), 4);
        Check.due("set(1, 1)", x.set(1, 1), 0);
        Check.due("set(1, 1)", x.set(1, 1), 1);
        Check.due("count(10)", x.count(10), 6);
        x.undo();
        x.undo();
        Check.due("setting(1)", x.setting(1), 0);
    }

    private static void setThrows() {
        PileTickets x = new PileTickets();
        for (int setting : new int[] {-1, 2, Integer.MAX_VALUE, Integer.MIN_VALUE}) {
            Check.dueThrow(x, "set(" + setting + ", 1)", Check.INDEX, () -> x.set(setting, 1));
            Check.dueThrow(x, "set(" + setting + ", 10)", Check.INDEX, () -> x.set(setting, 10));
        }
        for (int value : new int[] {0, 10, -1, Integer.MAX_VALUE, Integer.MIN_VALUE}) {
            Check.dueThrow(x, "set(0, " + value + ")", Check.ARGUMENT, () -> x.set(0, value));
        }
        for (int value : new int[] {2, -1, Integer.MAX_VALUE, Integer.MIN_VALUE}) {
            Check.dueThrow(x, "set(1, " + value + ")", Check.ARGUMENT, () -> x.set(1, value));
        }
    }
}
