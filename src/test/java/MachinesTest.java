/** Promises 5 to 8: load, room, pass, set. */
public final class MachinesTest {
    public static void main(String[] args) {
        load();
        room();
        pass();
        set();
        Sentences.end(5, 6, 7, 8);
    }

    private static void load() {
        Sentences.test(5, "Loads a machine.", MachinesTest::loadTakesOneColourInOrder);
        Sentences.test(5, "Undoable, also if it is refused.", MachinesTest::loadIsUndoable);
        Sentences.test(5, "`machine`: 0 or 1", MachinesTest::loadTakesEachMachine);
        Sentences.test(5, "Returns the weight that is in it then;", MachinesTest::loadTellsTheWeight);
        Sentences.test(5, "NONE if it is refused, as it is not idle,", MachinesTest::loadIsRefusedIfNotIdle);
        Sentences.test(5, "or no waiting pile is light enough.", MachinesTest::loadIsRefusedWithoutALightPile);
        Sentences.test(5, "Throws `IndexOutOfBoundsException` if there is no such machine", MachinesTest::loadThrows);
    }

    private static void room() {
        Sentences.test(6, "Changes the room of an idle machine.", MachinesTest::roomChanges);
        Sentences.test(6, "Undoable.", MachinesTest::roomIsUndoable);
        Sentences.test(6, "`machine`: 0 or 1", MachinesTest::roomTakesEachMachine);
        Sentences.test(6, "`room`: 10 to 60", MachinesTest::roomTakesEachRoom);
        Sentences.test(6, "Returns the room before.", MachinesTest::roomTellsTheOneBefore);
        Sentences.test(6, "Throws `IndexOutOfBoundsException` if there is no such machine",
                MachinesTest::roomThrowsWithoutMachine);
        Sentences.test(6, "Throws `IllegalArgumentException` if room is out of range",
                MachinesTest::roomThrowsOutOfRange);
        Sentences.test(6, "Throws `IllegalStateException` if it is not idle", MachinesTest::roomThrowsIfNotIdle);
    }

    private static void pass() {
        Sentences.test(7, "Lets minutes go by;", MachinesTest::passMovesTheClock);
        Sentences.test(7, "what a machine did by the clock is looked at in each one, the machine 0 first.",
                MachinesTest::passLooksAtEachMinute);
        Sentences.test(7, "Undoable.", MachinesTest::passIsUndoable);
        Sentences.test(7, "`minutes`: 1 to 240", MachinesTest::passTakesEachNumber);
        Sentences.test(7, "Returns how many piles are put on shelves in them.", MachinesTest::passCountsPiles);
        Sentences.test(7, "Throws `IllegalArgumentException` if minutes is out of range",
                MachinesTest::passThrowsOutOfRange);
        Sentences.test(7, "Throws `IllegalStateException` if the clock would be above 99999",
                MachinesTest::passThrowsAtTheLastClock);
    }

    private static void set() {
        Sentences.test(8, "Changes a setting.", MachinesTest::setChanges);
        Sentences.test(8, "Undoable.", MachinesTest::setIsUndoable);
        Sentences.test(8, "`setting`: 0 or 1", MachinesTest::setTakesEachSetting);
        Sentences.test(8, "`value`: the new value", MachinesTest::setTakesEachValue);
        Sentences.test(8, "Returns the previous value.", MachinesTest::setTellsTheValueBefore);
        Sentences.test(8, "Throws `IndexOutOfBoundsException` if there is no such setting",
                MachinesTest::setThrowsWithoutSetting);
        Sentences.test(8, "Throws `IllegalArgumentException` if value is out of range",
                MachinesTest::setThrowsOutOfRange);
    }

    // ---- load

    private static void loadTakesOneColourInOrder() {
        PileTickets x = new PileTickets();
        x.takeIn(1, 10, 5, 40, false);
        x.takeIn(0, 10, 5, 30, false);
        x.takeIn(1, 15, 5, 20, false);
        x.takeIn(1, 6, 5, 50, false);
        x.takeIn(1, 5, 5, 60, false);
        x.load(0);
        int[] state = {1, 0, 1, 0, 1};
        for (int place = 0; place < 5; place++) {
            Check.due("pileOf(" + place + ", 6)", x.pileOf(place, 6), state[place]);
            Check.due("pileOf(" + place + ", 7)", x.pileOf(place, 7), state[place] == 1 ? 0 : -1);
        }
        Check.due("machineOf(0, 1)", x.machineOf(0, 1), 30);
        Check.due("machineOf(0, 2)", x.machineOf(0, 2), 1);
        Check.due("machineOf(0, 3)", x.machineOf(0, 3), 3);
        Check.due("machineOf(0, 5)", x.machineOf(0, 5), 1);
        x.load(1);
        Check.due("pileOf(1, 7)", x.pileOf(1, 7), 1);
        Check.due("pileOf(3, 7)", x.pileOf(3, 7), -1);
        Check.due("machineOf(1, 2)", x.machineOf(1, 2), 0);
        Check.due("count(2)", x.count(2), 1);
        Check.due("count(3)", x.count(3), 4);
    }

    private static void loadIsUndoable() {
        PileTickets x = Scenes.waiting(3);
        Check.dueUndoable(x, "load(0)", () -> x.load(0), 3);
        Check.dueUndoable(x, "load(1)", () -> x.load(1), 3);
        x.load(0);
        Check.dueUndoable(x, "load(0) while it runs", () -> x.load(0), -1);
        Check.dueUndoable(x, "load(1) without a waiting pile", () -> x.load(1), -1);
        Check.due("count(9)", x.count(9), 0);
        Check.due("machineOf(0, 5)", x.machineOf(0, 5), 1);
    }

    private static void loadTakesEachMachine() {
        for (int machine = 0; machine < 2; machine++) {
            PileTickets x = Scenes.waiting(2);
            Check.due("load(" + machine + ")", x.load(machine), 2);
            Check.due("pileOf(1, 7)", x.pileOf(1, 7), machine);
            Check.due("machineOf(" + machine + ", 3)", x.machineOf(machine, 3), 2);
            Check.due("machineOf of the other", x.machineOf(1 - machine, 3), 0);
        }
        PileTickets x = Scenes.waiting(2);
        for (int machine : Check.outside(0, 1)) {
            Check.dueThrow(x, "load(" + machine + ")", Check.INDEX, () -> x.load(machine));
        }
    }

    private static void loadTellsTheWeight() {
        PileTickets x = new PileTickets();
        x.takeIn(0, 1, 1, 1, false);
        Check.due("load(0) of the least weight", x.load(0), 1);
        x.room(1, 60);
        for (int pile = 0; pile < 4; pile++) {
            x.takeIn(0, 20, 1, 1, false);
        }
        Check.due("load(1) of the greatest weight", x.load(1), 60);
        x.pass(1);
        x.room(0, 27);
        x.takeIn(1, 7, 1, 1, true);
        x.takeIn(1, 15, 1, 1, true);
        Check.due("load(0) of two piles", x.load(0), 22);
        Check.due("load(1) of the pile left", x.load(1), 20);
    }

    private static void loadIsRefusedIfNotIdle() {
        PileTickets x = new PileTickets();
        x.takeIn(0, 1, 5, 50, false);
        x.takeIn(1, 1, 5, 50, false);
        x.load(0);
        x.pass(4);
        Check.dueRefused(x, "load(0) a minute ahead of its end", () -> x.load(0), -1);
        x.pass(1);
        Check.due("load(0) at its end", x.load(0), 1);
        PileTickets full = Scenes.fullShelves();
        full.handOut(100, 0);
        full.takeIn(0, 1, 1, 1, false);
        full.pass(240);
        Check.dueRefused(full, "load(0), ended with a pile left in it", () -> full.load(0), -1);
        Check.due("load(1), idle beside it", full.load(1), 1);
    }

    private static void loadIsRefusedWithoutALightPile() {
        PileTickets empty = new PileTickets();
        Check.dueRefused(empty, "load(0) in an empty house", () -> empty.load(0), -1);
        PileTickets x = new PileTickets();
        x.room(1, 10);
        x.takeIn(0, 11, 5, 50, true);
        x.takeIn(1, 20, 5, 50, false);
        Check.dueRefused(x, "load(1) of piles too heavy by 1 and more", () -> x.load(1), -1);
        Check.due("machineOf(1, 5)", x.machineOf(1, 5), 0);
        x.takeIn(1, 10, 5, 50, false);
        Check.due("load(1) of a pile just light enough", x.load(1), 10);
        PileTickets shelved = Scenes.onShelves(2);
        Check.dueRefused(shelved, "load(0) with piles on shelves alone", () -> shelved.load(0), -1);
    }

    private static void loadThrows() {
        for (PileTickets x : new PileTickets[] {new PileTickets(), Scenes.waiting(10), Scenes.busy()}) {
            for (int machine : Check.outside(0, 1)) {
                Check.dueThrow(x, "load(" + machine + ")", Check.INDEX, () -> x.load(machine));
            }
        }
    }

    // ---- room

    private static void roomChanges() {
        PileTickets x = new PileTickets();
        for (int pile = 0; pile < 5; pile++) {
            x.takeIn(0, 6, 1, 50, false);
        }
        x.room(0, 17);
        Check.due("ifLoaded(0)", x.ifLoaded(0), 3);
        x.room(0, 18);
        Check.due("ifLoaded(0)", x.ifLoaded(0), 7);
        Check.due("machineOf(0, 0)", x.machineOf(0, 0), 18);
        Check.due("machineOf(1, 0)", x.machineOf(1, 0), 40);
        Check.due("load(0)", x.load(0), 18);
        x.pass(1);
        Check.due("machineOf(0, 0) of the machine idle again", x.machineOf(0, 0), 18);
        x.room(1, 6 + 5);
        Check.due("machineOf(0, 0)", x.machineOf(0, 0), 18);
        Check.due("load(1)", x.load(1), 6);
        Check.due("count(9)", x.count(9), 0);
    }

    private static void roomIsUndoable() {
        PileTickets x = Scenes.waiting(2);
        Check.dueUndoable(x, "room(0, 10)", () -> x.room(0, 10), 30);
        Check.dueUndoable(x, "room(1, 60)", () -> x.room(1, 60), 40);
        Check.dueUndoable(x, "room(1, 40) that changes nothing", () -> x.room(1, 40), 40);
    }

    private static void roomTakesEachMachine() {
        PileTickets x = new PileTickets();
        Check.due("room(0, 21)", x.room(0, 21), 30);
        Check.due("room(1, 22)", x.room(1, 22), 40);
        Check.due("machineOf(0, 0)", x.machineOf(0, 0), 21);
        Check.due("machineOf(1, 0)", x.machineOf(1, 0), 22);
        for (int machine : Check.outside(0, 1)) {
            Check.dueThrow(x, "room(" + machine + ", 30)", Check.INDEX, () -> x.room(machine, 30));
        }
    }

    private static void roomTakesEachRoom() {
        PileTickets x = new PileTickets();
        for (int room = 10; room <= 60; room++) {
            x.room(0, room);
            x.room(1, 70 - room);
            Check.due("machineOf(0, 0)", x.machineOf(0, 0), room);
            Check.due("machineOf(1, 0)", x.machineOf(1, 0), 70 - room);
        }
        for (int room : Check.outside(10, 60)) {
            Check.dueThrow(x, "room(1, " + room + ")", Check.ARGUMENT, () -> x.room(1, room));
        }
    }

    private static void roomTellsTheOneBefore() {
        PileTickets x = new PileTickets();
        Check.due("room(0, 10)", x.room(0, 10), 30);
        Check.due("room(0, 60)", x.room(0, 60), 10);
        Check.due("room(0, 60)", x.room(0, 60), 60);
        Check.due("room(1, 10)", x.room(1, 10), 40);
        Check.due("room(1, 11)", x.room(1, 11), 10);
    }

    private static void roomThrowsWithoutMachine() {
        PileTickets x = Scenes.waiting(1);
        x.load(1);
        for (int machine : Check.outside(0, 1)) {
            Check.dueThrow(x, "room(" + machine + ", 10)", Check.INDEX, () -> x.room(machine, 10));
            Check.dueThrow(x, "room(" + machine + ", 9)", Check.INDEX, () -> x.room(machine, 9));
        }
    }

    private static void roomThrowsOutOfRange() {
        PileTickets x = Scenes.waiting(1);
        x.load(1);
        for (int room : Check.outside(10, 60)) {
            Check.dueThrow(x, "room(0, " + room + ")", Check.ARGUMENT, () -> x.room(0, room));
            Check.dueThrow(x, "room(1, " + room + ") while it runs", Check.ARGUMENT, () -> x.room(1, room));
        }
    }

    private static void roomThrowsIfNotIdle() {
        PileTickets x = new PileTickets();
        x.takeIn(0, 1, 5, 5, false);
        x.load(1);
        Check.dueThrow(x, "room(1, 41)", Check.STATE, () -> x.room(1, 41));
        Check.dueThrow(x, "room(1, 40) that would change nothing", Check.STATE, () -> x.room(1, 40));
        Check.due("room(0, 31) of the idle one", x.room(0, 31), 30);
        x.pass(4);
        Check.dueThrow(x, "room(1, 41) a minute ahead of its end", Check.STATE, () -> x.room(1, 41));
        x.pass(1);
        Check.due("room(1, 41) at its end", x.room(1, 41), 40);
        PileTickets full = Scenes.fullShelves();
        full.pass(1);
        Check.dueThrow(full, "room(0, 40), ended with piles in it", Check.STATE, () -> full.room(0, 40));
        full.handOut(100, 0);
        Check.dueThrow(full, "room(0, 40), ended with a pile in it", Check.STATE, () -> full.room(0, 40));
        full.handOut(101, 1);
        Check.due("room(0, 40), idle as its last pile is out", full.room(0, 40), 60);
    }

    // ---- pass

    private static void passMovesTheClock() {
        PileTickets x = new PileTickets();
        x.pass(1);
        Check.due("count(0)", x.count(0), 1);
        x.pass(240);
        Check.due("count(0)", x.count(0), 241);
        x.takeIn(0, 1, 1, 1, false);
        Check.due("pileOf(0, 4)", x.pileOf(0, 4), 242);
        Check.due("count(9)", x.count(9), 0);
    }

    private static void passLooksAtEachMinute() {
        PileTickets x = new PileTickets();
        x.takeIn(0, 1, 6, 5, false);
        x.takeIn(1, 1, 5, 5, false);
        x.load(0);
        x.load(1);
        x.pass(240);
        Check.due("shelf(0)", x.shelf(0), 1);
        Check.due("shelf(1)", x.shelf(1), 0);
        Check.due("pileOf(0, 9)", x.pileOf(0, 9), 6);
        Check.due("pileOf(1, 9)", x.pileOf(1, 9), 5);
        Check.due("count(7)", x.count(7), 1);
        machineZeroIsFirstInAMinute();
        machineZeroGetsTheLastShelf();
    }

    private static void machineZeroIsFirstInAMinute() {
        PileTickets x = new PileTickets();
        x.takeIn(0, 1, 5, 5, false);
        x.takeIn(1, 1, 5, 6, false);
        x.load(1);
        x.load(0);
        x.pass(5);
        Check.due("shelf(0)", x.shelf(0), 1);
        Check.due("shelf(1)", x.shelf(1), 0);
    }

    private static void machineZeroGetsTheLastShelf() {
        for (int time = 4; time <= 6; time++) {
            PileTickets x = Scenes.onShelves(7);
            x.takeIn(1, 1, time, 500, false);
            x.load(1);
            x.takeIn(2, 1, 5, 500, false);
            x.load(0);
            Check.due("pass(10)", x.pass(10), 1);
            Check.due("shelf(7) if machine 1 ran for " + time, x.shelf(7), time < 5 ? 7 : 8);
        }
    }

    private static void passIsUndoable() {
        PileTickets x = Scenes.waiting(2);
        x.load(1);
        Check.dueUndoable(x, "pass(240)", () -> x.pass(240), 2);
        Check.dueUndoable(x, "pass(1)", () -> x.pass(1), 2);
        Check.due("count(0)", x.count(0), 0);
        PileTickets empty = new PileTickets();
        Check.dueUndoable(empty, "pass(1) in an empty house", () -> empty.pass(1), 0);
    }

    private static void passTakesEachNumber() {
        for (int minutes = 1; minutes <= 240; minutes++) {
            PileTickets x = new PileTickets();
            Check.due("pass(" + minutes + ")", x.pass(minutes), 0);
            Check.due("count(0)", x.count(0), minutes);
        }
        PileTickets x = new PileTickets();
        for (int minutes : Check.outside(1, 240)) {
            Check.dueThrow(x, "pass(" + minutes + ")", Check.ARGUMENT, () -> x.pass(minutes));
        }
    }

    private static void passCountsPiles() {
        PileTickets x = new PileTickets();
        x.room(0, 60);
        for (int pile = 0; pile < 10; pile++) {
            x.takeIn(0, 6, 10, 500, false);
        }
        x.load(0);
        Check.due("pass(9), up to a minute ahead of the end", x.pass(9), 0);
        Check.due("pass(1) to the end of all ten", x.pass(1), 8);
        Check.due("pass(240) with full shelves", x.pass(240), 0);
        x.handOut(100, 0);
        Check.due("pass(1) behind a handOut that put one on a shelf", x.pass(1), 0);
        PileTickets two = new PileTickets();
        two.takeIn(0, 1, 3, 500, false);
        two.takeIn(0, 1, 3, 500, false);
        two.takeIn(1, 1, 9, 500, false);
        two.load(0);
        two.load(1);
        Check.due("pass(9) over the ends of both machines", two.pass(9), 3);
        Check.due("pass(9) over no end", two.pass(9), 0);
    }

    private static void passThrowsOutOfRange() {
        PileTickets last = new PileTickets();
        Scenes.passTo(last, 99999);
        for (PileTickets x : new PileTickets[] {new PileTickets(), Scenes.busy(), last}) {
            for (int minutes : Check.outside(1, 240)) {
                Check.dueThrow(x, "pass(" + minutes + ")", Check.ARGUMENT, () -> x.pass(minutes));
            }
        }
    }

    private static void passThrowsAtTheLastClock() {
        PileTickets x = new PileTickets();
        Scenes.passTo(x, 99760);
        Check.dueThrow(x, "pass(240) to 100000", Check.STATE, () -> x.pass(240));
        Check.due("pass(239) to 99999", x.pass(239), 0);
        Check.due("count(0)", x.count(0), 99999);
        Check.dueThrow(x, "pass(1) to 100000", Check.STATE, () -> x.pass(1));
        Check.dueThrow(x, "pass(240) to 100239", Check.STATE, () -> x.pass(240));
        x.undo();
        Check.due("pass(238) to 99998", x.pass(238), 0);
        Check.dueThrow(x, "pass(2) to 100000", Check.STATE, () -> x.pass(2));
        Check.due("pass(1) to 99999", x.pass(1), 0);
    }

    // ---- set

    private static void setChanges() {
        PileTickets x = new PileTickets();
        x.takeIn(0, 3, 1, 5, false);
        x.takeIn(0, 3, 1, 9, true);
        x.set(0, 9);
        Check.due("setting(0)", x.setting(0), 9);
        Check.due("setting(1)", x.setting(1), 1);
        Check.due("pileOf(0, 10)", x.pileOf(0, 10), 27);
        Check.due("waiting(0)", x.waiting(0), 1);
        x.set(1, 0);
        Check.due("setting(0)", x.setting(0), 9);
        Check.due("setting(1)", x.setting(1), 0);
        Check.due("waiting(0)", x.waiting(0), 0);
        x.set(1, 1);
        Check.due("waiting(0)", x.waiting(0), 1);
        Check.due("count(9)", x.count(9), 0);
    }

    private static void setIsUndoable() {
        PileTickets x = Scenes.waiting(2);
        Check.dueUndoable(x, "set(0, 9)", () -> x.set(0, 9), 3);
        Check.dueUndoable(x, "set(1, 0)", () -> x.set(1, 0), 1);
        Check.dueUndoable(x, "set(0, 3) that changes nothing", () -> x.set(0, 3), 3);
        Check.dueUndoable(x, "set(1, 1) that changes nothing", () -> x.set(1, 1), 1);
    }

    private static void setTakesEachSetting() {
        PileTickets x = new PileTickets();
        Check.due("set(0, 1)", x.set(0, 1), 3);
        Check.due("set(1, 0)", x.set(1, 0), 1);
        Check.due("setting(0)", x.setting(0), 1);
        Check.due("setting(1)", x.setting(1), 0);
        for (int setting : Check.outside(0, 1)) {
            Check.dueThrow(x, "set(" + setting + ", 1)", Check.INDEX, () -> x.set(setting, 1));
        }
    }

    private static void setTakesEachValue() {
        PileTickets x = new PileTickets();
        x.takeIn(0, 7, 1, 1, false);
        for (int value = 1; value <= 9; value++) {
            x.set(0, value);
            Check.due("setting(0)", x.setting(0), value);
            Check.due("pileOf(0, 10)", x.pileOf(0, 10), 7 * value);
        }
        for (int value : new int[] {0, 1, 1, 0, 0}) {
            x.set(1, value);
            Check.due("setting(1)", x.setting(1), value);
        }
    }

    private static void setTellsTheValueBefore() {
        PileTickets x = new PileTickets();
        Check.due("set(0, 9)", x.set(0, 9), 3);
        Check.due("set(0, 9)", x.set(0, 9), 9);
        Check.due("set(0, 1)", x.set(0, 1), 9);
        Check.due("set(1, 0)", x.set(1, 0), 1);
        Check.due("set(1, 0)", x.set(1, 0), 0);
        Check.due("set(1, 1)", x.set(1, 1), 0);
        Check.due("set(0, 2)", x.set(0, 2), 1);
    }

    private static void setThrowsWithoutSetting() {
        for (PileTickets x : new PileTickets[] {new PileTickets(), Scenes.busy()}) {
            for (int setting : Check.outside(0, 1)) {
                Check.dueThrow(x, "set(" + setting + ", 1)", Check.INDEX, () -> x.set(setting, 1));
                Check.dueThrow(x, "set(" + setting + ", 10)", Check.INDEX, () -> x.set(setting, 10));
            }
        }
    }

    private static void setThrowsOutOfRange() {
        for (PileTickets x : new PileTickets[] {new PileTickets(), Scenes.busy()}) {
            for (int value : Check.outside(1, 9)) {
                Check.dueThrow(x, "set(0, " + value + ")", Check.ARGUMENT, () -> x.set(0, value));
            }
            for (int value : Check.outside(0, 1)) {
                Check.dueThrow(x, "set(1, " + value + ")", Check.ARGUMENT, () -> x.set(1, value));
            }
        }
    }
}
