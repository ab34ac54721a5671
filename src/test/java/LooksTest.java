/** Promises 16 to 20: pileOf, machineOf, shelf, count, setting. */
public final class LooksTest {
    public static void main(String[] args) {
        pileOf();
        machineOf();
        shelf();
        count();
        setting();
        Sentences.end(16, 17, 18, 19, 20);
    }

    private static void pileOf() {
        Sentences.test(16, "Returns a property of a pile.", LooksTest::pileOfFollowsAPile);
        Sentences.test(16, "`place`: 0 to 9", LooksTest::pileOfTakesEachPlace);
        Sentences.test(16, "`what`: 0: its ticket;", LooksTest::pileTicket);
        Sentences.test(16, "1: its colour;", () -> dueTakenIn(1, 0, 1, 2, 3));
        Sentences.test(16, "2: its weight;", () -> dueTakenIn(2, 1, 2, 19, 20));
        Sentences.test(16, "3: its washing time;", () -> dueTakenIn(3, 1, 2, 59, 60));
        Sentences.test(16, "4: its promise, as a clock;", LooksTest::pilePromise);
        Sentences.test(16, "5: 1 if it is a rush, otherwise 0;", LooksTest::pileRush);
        Sentences.test(16, "6: 0 if it waits, 1 if it is in a machine, 2 if it stands on a shelf;",
                LooksTest::pileState);
        Sentences.test(16, "7: the machine or the shelf, NONE if it waits;", LooksTest::pileMachineOrShelf);
        Sentences.test(16, "8: how many waiting piles are ahead of it in the order, NONE if it does not wait;",
                LooksTest::pileRank);
        Sentences.test(16, "9: the clock at which it was put on its shelf, NONE without one;",
                LooksTest::pileShelfClock);
        Sentences.test(16, "10: the fee, as if it was handed out now (late only if it stands on a shelf, and was put there late)",
                LooksTest::pileFee);
        Sentences.test(16, "Returns the property;", LooksTest::pileOfTellsAllAtTheirGreatest);
        Sentences.test(16, "NONE for all if there is no pile at the place.", LooksTest::pileOfAnEmptyPlace);
        Sentences.test(16, "Throws `IndexOutOfBoundsException` if there is no such place",
                LooksTest::pileOfThrowsWithoutPlace);
        Sentences.test(16, "Throws `IllegalArgumentException` if what is not 0 to 10",
                LooksTest::pileOfThrowsOutOfRange);
    }

    private static void machineOf() {
        Sentences.test(17, "Returns a property of a machine.", LooksTest::machineOfFollowsAMachine);
        Sentences.test(17, "`machine`: 0 or 1", LooksTest::machineOfTakesEachMachine);
        Sentences.test(17, "`what`: 0: its room;", LooksTest::machineRoom);
        Sentences.test(17, "1: the weight in it;", LooksTest::machineWeight);
        Sentences.test(17, "2: the colour in it, NONE if it is idle;", LooksTest::machineColour);
        Sentences.test(17, "3: piles in it;", LooksTest::machinePiles);
        Sentences.test(17, "4: the clock at which it ends or ended, NONE if it is idle;", LooksTest::machineEnd);
        Sentences.test(17, "5: how often it was loaded so far", LooksTest::machineLoads);
        Sentences.test(17, "Returns the property.", LooksTest::machineOfTellsFullMachines);
        Sentences.test(17, "Throws `IndexOutOfBoundsException` if there is no such machine",
                LooksTest::machineOfThrowsWithoutMachine);
        Sentences.test(17, "Throws `IllegalArgumentException` if what is not 0 to 5",
                LooksTest::machineOfThrowsOutOfRange);
    }

    private static void shelf() {
        Sentences.test(18, "Tells which pile stands on a shelf.", LooksTest::shelfTellsThePile);
        Sentences.test(18, "`shelf`: 0 to 7", LooksTest::shelfTakesEachShelf);
        Sentences.test(18, "Returns its place in the house; NONE if the shelf is free.", LooksTest::shelfTellsPlaces);
        Sentences.test(18, "Throws `IndexOutOfBoundsException` if there is no such shelf", LooksTest::shelfThrows);
    }

    private static void count() {
        Sentences.test(19, "Returns a number.", LooksTest::countFollowsTheHouse);
        Sentences.test(19, "`what`: 0: the clock;", LooksTest::countClock);
        Sentences.test(19, "1: piles in the house;", () -> dueCountsByStep(1, 0, 10, 10, 10, 10, 9, 9));
        Sentences.test(19, "2: waiting ones;", () -> dueCountsByStep(2, 0, 10, 0, 0, 0, 0, 0));
        Sentences.test(19, "3: those in machines;", () -> dueCountsByStep(3, 0, 0, 10, 2, 2, 1, 1));
        Sentences.test(19, "4: those on shelves;", () -> dueCountsByStep(4, 0, 0, 0, 8, 8, 8, 8));
        Sentences.test(19, "5: piles taken in so far;", LooksTest::countTakenIn);
        Sentences.test(19, "6: piles handed out so far;", () -> dueCountsByStep(6, 0, 0, 0, 0, 0, 1, 1));
        Sentences.test(19, "7: late ones put on shelves so far;", LooksTest::countLate);
        Sentences.test(19, "8: fees so far;", LooksTest::countFees);
        Sentences.test(19, "9: what was refused so far;", LooksTest::countRefused);
        Sentences.test(19, "10: saved states", LooksTest::countSaved);
        Sentences.test(19, "Returns the number.", LooksTest::countOfALongRun);
        Sentences.test(19, "Throws `IllegalArgumentException` if what is not 0 to 10", LooksTest::countThrows);
    }

    private static void setting() {
        Sentences.test(20, "Returns a setting.", LooksTest::settingAtFirst);
        Sentences.test(20, "`setting`: 0 or 1", LooksTest::settingTakesEachSetting);
        Sentences.test(20, "Returns its value.", LooksTest::settingTellsValues);
        Sentences.test(20, "Throws `IndexOutOfBoundsException` if there is no such setting", LooksTest::settingThrows);
    }

    // ---- pileOf

    private static void duePile(PileTickets x, int place, int... due) {
        for (int what = 0; what <= 10; what++) {
            Check.due("pileOf(" + place + ", " + what + ")", x.pileOf(place, what), due[what]);
        }
    }

    private static void pileOfFollowsAPile() {
        PileTickets x = new PileTickets();
        x.takeIn(2, 7, 4, 3, true);
        x.takeIn(2, 6, 9, 9, false);
        x.takeIn(1, 6, 9, 2, false);
        duePile(x, 0, 100, 2, 7, 4, 3, 1, 0, -1, 0, -1, 31);
        duePile(x, 1, 101, 2, 6, 9, 9, 0, 0, -1, 2, -1, 18);
        duePile(x, 2, 102, 1, 6, 9, 2, 0, 0, -1, 1, -1, 18);
        x.load(1);
        duePile(x, 0, 100, 2, 7, 4, 3, 1, 1, 1, -1, -1, 31);
        duePile(x, 1, 101, 2, 6, 9, 9, 0, 1, 1, -1, -1, 18);
        duePile(x, 2, 102, 1, 6, 9, 2, 0, 0, -1, 0, -1, 18);
        x.load(0);
        duePile(x, 2, 102, 1, 6, 9, 2, 0, 1, 0, -1, -1, 18);
        x.pass(9);
        duePile(x, 2, 102, 1, 6, 9, 2, 0, 2, 0, -1, 9, 14);
        duePile(x, 0, 100, 2, 7, 4, 3, 1, 2, 1, -1, 9, 24);
        duePile(x, 1, 101, 2, 6, 9, 9, 0, 2, 2, -1, 9, 18);
        x.handOut(100, 1);
        duePile(x, 0, -1, -1, -1, -1, -1, -1, -1, -1, -1, -1, -1);
    }

    private static void pileOfTakesEachPlace() {
        PileTickets x = new PileTickets();
        for (int place = 0; place < 10; place++) {
            x.takeIn(place % 4, 1 + place, 11 + place, 21 + place, place == 9);
        }
        for (int place = 0; place < 10; place++) {
            int fee = 3 * (1 + place) + (place == 9 ? 15 : 0);
            int rank = place == 9 ? 0 : 1 + place;
            duePile(x, place, 100 + place, place % 4, 1 + place, 11 + place, 21 + place, place / 9, 0, -1, rank, -1, fee);
        }
        for (int place : Check.outside(0, 9)) {
            Check.dueThrow(x, "pileOf(" + place + ", 0)", Check.INDEX, () -> x.pileOf(place, 0));
        }
    }

    private static void pileTicket() {
        PileTickets x = Scenes.onShelves(8);
        Check.due("pileOf(0, 0)", x.pileOf(0, 0), 100);
        Check.due("pileOf(7, 0)", x.pileOf(7, 0), 107);
        x.handOut(100, 0);
        Check.due("pileOf(0, 0) of none", x.pileOf(0, 0), -1);
        x.takeIn(0, 1, 1, 1, false);
        Check.due("pileOf(0, 0) of the next pile", x.pileOf(0, 0), 108);
    }

    /** Values of a property that takeIn() sets and nothing changes: waiting, in a machine and on a shelf. */
    private static void dueTakenIn(int what, int... values) {
        for (int value : values) {
            int[] own = {0, 3, 4, 5};
            own[what] = value;
            PileTickets x = new PileTickets();
            x.takeIn(1, 1, 1, 1, false);
            x.takeIn(own[1], own[2], own[3], 50, true);
            Check.due("pileOf(1, " + what + ") waiting", x.pileOf(1, what), value);
            x.load(1);
            Check.due("pileOf(1, " + what + ") in a machine", x.pileOf(1, what), value);
            x.pass(60);
            Check.due("pileOf(1, " + what + ") on a shelf", x.pileOf(1, what), value);
            Check.due("pileOf(1, 6)", x.pileOf(1, 6), 2);
        }
    }

    private static void pilePromise() {
        PileTickets x = new PileTickets();
        x.takeIn(0, 1, 1, 1, false);
        Check.due("pileOf(0, 4) at the clock 0", x.pileOf(0, 4), 1);
        x.pass(240);
        x.takeIn(0, 1, 1, 999, false);
        Check.due("pileOf(0, 4) of a promise that is past", x.pileOf(0, 4), 1);
        Check.due("pileOf(1, 4)", x.pileOf(1, 4), 1239);
        x.load(0);
        x.pass(1);
        Check.due("pileOf(1, 4) on a shelf", x.pileOf(1, 4), 1239);
        Scenes.passTo(x, 99999);
        x.takeIn(0, 1, 1, 999, false);
        Check.due("pileOf(2, 4) at the last clock", x.pileOf(2, 4), 100998);
    }

    private static void pileRush() {
        PileTickets x = new PileTickets();
        x.takeIn(0, 1, 1, 9, true);
        x.takeIn(0, 1, 1, 9, false);
        Check.due("pileOf(0, 5)", x.pileOf(0, 5), 1);
        Check.due("pileOf(1, 5)", x.pileOf(1, 5), 0);
        x.set(1, 0);
        Check.due("pileOf(0, 5) where rushes do not go first", x.pileOf(0, 5), 1);
        x.load(0);
        x.pass(1);
        Check.due("pileOf(0, 5) on a shelf", x.pileOf(0, 5), 1);
        Check.due("pileOf(1, 5) on a shelf", x.pileOf(1, 5), 0);
    }

    private static void pileState() {
        PileTickets x = new PileTickets();
        x.takeIn(0, 1, 2, 9, false);
        Check.due("pileOf(0, 6)", x.pileOf(0, 6), 0);
        x.load(0);
        Check.due("pileOf(0, 6)", x.pileOf(0, 6), 1);
        x.pass(1);
        Check.due("pileOf(0, 6) a minute ahead of the end", x.pileOf(0, 6), 1);
        x.pass(1);
        Check.due("pileOf(0, 6)", x.pileOf(0, 6), 2);
        PileTickets full = Scenes.fullShelves();
        Check.due("pileOf(7, 6) on the last shelf", full.pileOf(7, 6), 2);
        Check.due("pileOf(8, 6) without a shelf", full.pileOf(8, 6), 1);
        full.handOut(100, 0);
        Check.due("pileOf(8, 6) on the shelf that is free", full.pileOf(8, 6), 2);
        Check.due("pileOf(9, 6) without a shelf", full.pileOf(9, 6), 1);
    }

    private static void pileMachineOrShelf() {
        PileTickets x = new PileTickets();
        x.takeIn(0, 1, 1, 9, false);
        x.takeIn(1, 1, 1, 9, false);
        x.takeIn(2, 1, 1, 9, false);
        x.load(0);
        x.load(1);
        int[] inMachines = {0, 1, -1};
        for (int place = 0; place < 3; place++) {
            Check.due("pileOf(" + place + ", 7)", x.pileOf(place, 7), inMachines[place]);
        }
        x.pass(1);
        int[] onShelves = {0, 1, -1};
        for (int place = 0; place < 3; place++) {
            Check.due("pileOf(" + place + ", 7)", x.pileOf(place, 7), onShelves[place]);
        }
        x.handOut(101, 1);
        x.takeIn(1, 1, 1, 9, false);
        Check.due("pileOf(1, 7) of one that waits where another stood", x.pileOf(1, 7), -1);
        PileTickets full = Scenes.fullShelves();
        Check.due("pileOf(7, 7)", full.pileOf(7, 7), 7);
        Check.due("pileOf(9, 7) without a shelf", full.pileOf(9, 7), 0);
        full.handOut(105, 5);
        Check.due("pileOf(8, 7)", full.pileOf(8, 7), 5);
    }

    private static void pileRank() {
        PileTickets x = Scenes.waiting(10);
        x.rush(9);
        for (int place = 0; place < 10; place++) {
            Check.due("pileOf(" + place + ", 8)", x.pileOf(place, 8), place == 9 ? 0 : place + 1);
        }
        x.set(1, 0);
        Check.due("pileOf(0, 8)", x.pileOf(0, 8), 0);
        Check.due("pileOf(9, 8)", x.pileOf(9, 8), 9);
        PileTickets y = Scenes.busy();
        Check.due("pileOf(0, 8) on a shelf", y.pileOf(0, 8), -1);
        Check.due("pileOf(1, 8) in a machine", y.pileOf(1, 8), -1);
        Check.due("pileOf(2, 8), the only one that waits", y.pileOf(2, 8), 0);
    }

    private static void pileShelfClock() {
        PileTickets x = new PileTickets();
        x.takeIn(0, 1, 1, 9, false);
        Check.due("pileOf(0, 9) waiting", x.pileOf(0, 9), -1);
        x.load(0);
        Check.due("pileOf(0, 9) in a machine", x.pileOf(0, 9), -1);
        x.pass(240);
        Check.due("pileOf(0, 9) put there within the minutes", x.pileOf(0, 9), 1);
        x.handOut(100, 0);
        x.takeIn(0, 1, 1, 9, false);
        Check.due("pileOf(0, 9) of one that waits where another stood", x.pileOf(0, 9), -1);
        PileTickets full = Scenes.fullShelves();
        full.pass(5);
        Check.due("pileOf(0, 9)", full.pileOf(0, 9), 10);
        Check.due("pileOf(8, 9) in an ended machine", full.pileOf(8, 9), -1);
        full.handOut(100, 0);
        Check.due("pileOf(8, 9) put there by handOut()", full.pileOf(8, 9), 15);
    }

    private static void pileFee() {
        PileTickets x = new PileTickets();
        x.takeIn(0, 7, 9, 2, false);
        x.takeIn(0, 7, 9, 9, false);
        x.pass(3);
        Check.due("pileOf(0, 10) waiting, its promise past", x.pileOf(0, 10), 21);
        x.load(0);
        x.pass(8);
        Check.due("pileOf(0, 10) in a machine, its promise past", x.pileOf(0, 10), 21);
        x.pass(1);
        Check.due("pileOf(0, 10) put on a shelf late", x.pileOf(0, 10), 16);
        PileTickets inTime = Scenes.washed(7, 5, true);
        inTime.pass(240);
        Check.due("pileOf(0, 10) put on a shelf in time, its promise past since", inTime.pileOf(0, 10), 31);
        inTime.set(0, 9);
        Check.due("pileOf(0, 10) at the price of now", inTime.pileOf(0, 10), 94);
        Check.due("handOut", inTime.handOut(100, 0), 104);
        PileTickets full = Scenes.fullShelves();
        full.pass(11);
        Check.due("pileOf(8, 10) in an ended machine, its promise past", full.pileOf(8, 10), 9);
        full.handOut(100, 0);
        Check.due("pileOf(8, 10) put on a shelf late", full.pileOf(8, 10), 7);
    }

    private static void pileOfTellsAllAtTheirGreatest() {
        PileTickets x = new PileTickets();
        Scenes.passTo(x, 99900);
        x.set(0, 9);
        x.takeIn(3, 20, 60, 999, true);
        duePile(x, 0, 100, 3, 20, 60, 100899, 1, 0, -1, 0, -1, 270);
        x.load(1);
        x.pass(99);
        duePile(x, 0, 100, 3, 20, 60, 100899, 1, 2, 0, -1, 99960, 270);
    }

    private static void pileOfAnEmptyPlace() {
        PileTickets x = Scenes.onShelves(2);
        x.handOut(100, 0);
        for (int place : new int[] {0, 2, 9}) {
            duePile(x, place, -1, -1, -1, -1, -1, -1, -1, -1, -1, -1, -1);
        }
        Check.due("pileOf(1, 0) beside them", x.pileOf(1, 0), 101);
    }

    private static void pileOfThrowsWithoutPlace() {
        for (PileTickets x : new PileTickets[] {new PileTickets(), Scenes.waiting(10)}) {
            for (int place : Check.outside(0, 9)) {
                Check.dueThrow(x, "pileOf(" + place + ", 10)", Check.INDEX, () -> x.pileOf(place, 10));
                Check.dueThrow(x, "pileOf(" + place + ", 11)", Check.INDEX, () -> x.pileOf(place, 11));
                Check.dueThrow(x, "pileOf(" + place + ", -1)", Check.INDEX, () -> x.pileOf(place, -1));
            }
        }
    }

    private static void pileOfThrowsOutOfRange() {
        PileTickets x = Scenes.waiting(1);
        for (int what : Check.outside(0, 10)) {
            Check.dueThrow(x, "pileOf(0, " + what + ")", Check.ARGUMENT, () -> x.pileOf(0, what));
            Check.dueThrow(x, "pileOf(9, " + what + ") of no pile", Check.ARGUMENT, () -> x.pileOf(9, what));
        }
    }

    // ---- machineOf

    private static void dueMachine(PileTickets x, int machine, int... due) {
        for (int what = 0; what <= 5; what++) {
            Check.due("machineOf(" + machine + ", " + what + ")", x.machineOf(machine, what), due[what]);
        }
    }

    private static void machineOfFollowsAMachine() {
        PileTickets x = new PileTickets();
        x.takeIn(0, 7, 4, 90, false);
        x.takeIn(0, 6, 9, 90, false);
        dueMachine(x, 0, 30, 0, -1, 0, -1, 0);
        x.load(0);
        dueMachine(x, 0, 30, 13, 0, 2, 9, 1);
        dueMachine(x, 1, 40, 0, -1, 0, -1, 0);
        x.pass(9);
        dueMachine(x, 0, 30, 0, -1, 0, -1, 1);
        PileTickets full = Scenes.fullShelves();
        dueMachine(full, 0, 60, 7, 2, 2, 10, 1);
        full.pass(100);
        dueMachine(full, 0, 60, 7, 2, 2, 10, 1);
        full.handOut(100, 0);
        dueMachine(full, 0, 60, 4, 2, 1, 10, 1);
        full.handOut(101, 1);
        dueMachine(full, 0, 60, 0, -1, 0, -1, 1);
    }

    private static void machineOfTakesEachMachine() {
        PileTickets x = Scenes.waiting(2);
        x.load(1);
        dueMachine(x, 0, 30, 0, -1, 0, -1, 0);
        dueMachine(x, 1, 40, 2, 0, 2, 1, 1);
        for (int machine : Check.outside(0, 1)) {
            Check.dueThrow(x, "machineOf(" + machine + ", 0)", Check.INDEX, () -> x.machineOf(machine, 0));
        }
    }

    private static void machineRoom() {
        PileTickets x = Scenes.waiting(1);
        x.room(1, 60);
        x.room(0, 10);
        Check.due("machineOf(0, 0)", x.machineOf(0, 0), 10);
        Check.due("machineOf(1, 0)", x.machineOf(1, 0), 60);
        x.load(0);
        Check.due("machineOf(0, 0) while it runs", x.machineOf(0, 0), 10);
    }

    private static void machineWeight() {
        PileTickets x = Scenes.fullShelves();
        Check.due("machineOf(0, 1) of what is left in it", x.machineOf(0, 1), 3 + 4);
        x.handOut(100, 0);
        Check.due("machineOf(0, 1)", x.machineOf(0, 1), 4);
        x.handOut(101, 1);
        Check.due("machineOf(0, 1) of an idle one", x.machineOf(0, 1), 0);
        x.takeIn(0, 20, 1, 1, false);
        Check.due("machineOf(0, 1) while piles wait", x.machineOf(0, 1), 0);
        x.load(0);
        Check.due("machineOf(0, 1)", x.machineOf(0, 1), 20);
        Check.due("machineOf(1, 1)", x.machineOf(1, 1), 0);
    }

    private static void machineColour() {
        for (int colour = 0; colour <= 3; colour++) {
            PileTickets x = new PileTickets();
            x.takeIn(colour, 1, 2, 9, false);
            Check.due("machineOf(0, 2) of an idle one", x.machineOf(0, 2), -1);
            x.load(0);
            Check.due("machineOf(0, 2)", x.machineOf(0, 2), colour);
            Check.due("machineOf(1, 2) of an idle one", x.machineOf(1, 2), -1);
            x.pass(2);
            Check.due("machineOf(0, 2) of one idle again", x.machineOf(0, 2), -1);
        }
        PileTickets full = Scenes.fullShelves();
        Check.due("machineOf(0, 2) of an ended one", full.machineOf(0, 2), 2);
        full.handOut(100, 0);
        full.handOut(101, 1);
        Check.due("machineOf(0, 2) of one idle at last", full.machineOf(0, 2), -1);
    }

    private static void machinePiles() {
        PileTickets x = Scenes.waiting(10);
        Check.due("machineOf(1, 3)", x.machineOf(1, 3), 0);
        x.load(1);
        Check.due("machineOf(1, 3) of all", x.machineOf(1, 3), 10);
        Check.due("machineOf(0, 3)", x.machineOf(0, 3), 0);
        x.pass(1);
        Check.due("machineOf(1, 3) with full shelves", x.machineOf(1, 3), 2);
        x.handOut(100, 0);
        Check.due("machineOf(1, 3)", x.machineOf(1, 3), 1);
        x.handOut(101, 1);
        Check.due("machineOf(1, 3)", x.machineOf(1, 3), 0);
    }

    private static void machineEnd() {
        PileTickets x = new PileTickets();
        x.pass(7);
        x.takeIn(0, 1, 60, 9, false);
        x.takeIn(1, 1, 1, 9, true);
        Check.due("machineOf(0, 4) of an idle one", x.machineOf(0, 4), -1);
        x.load(0);
        x.load(1);
        Check.due("machineOf(0, 4)", x.machineOf(0, 4), 8);
        Check.due("machineOf(1, 4)", x.machineOf(1, 4), 67);
        x.pass(1);
        Check.due("machineOf(0, 4) at its end", x.machineOf(0, 4), -1);
        Check.due("machineOf(1, 4)", x.machineOf(1, 4), 67);
        PileTickets full = Scenes.fullShelves();
        full.pass(100);
        Check.due("machineOf(0, 4) of one that ended", full.machineOf(0, 4), 10);
        full.handOut(100, 0);
        Check.due("machineOf(0, 4) with a pile left", full.machineOf(0, 4), 10);
        full.handOut(101, 1);
        Check.due("machineOf(0, 4) of one idle at last", full.machineOf(0, 4), -1);
    }

    private static void machineLoads() {
        PileTickets x = new PileTickets();
        for (int time = 1; time <= 8; time++) {
            x.load(1);
            x.takeIn(0, 1, 1, 9, false);
            Check.due("machineOf(1, 5) behind a refusal", x.machineOf(1, 5), time - 1);
            x.load(1);
            x.load(1);
            Check.due("machineOf(1, 5)", x.machineOf(1, 5), time);
            x.pass(1);
            Check.due("machineOf(1, 5) at its end", x.machineOf(1, 5), time);
        }
        Check.due("machineOf(0, 5)", x.machineOf(0, 5), 0);
    }

    private static void machineOfTellsFullMachines() {
        PileTickets x = new PileTickets();
        x.room(0, 60);
        x.room(1, 60);
        for (int pile = 0; pile < 6; pile++) {
            x.takeIn(3, 20, 60, 9, false);
        }
        x.load(0);
        x.load(1);
        dueMachine(x, 0, 60, 60, 3, 3, 60, 1);
        dueMachine(x, 1, 60, 60, 3, 3, 60, 1);
    }

    private static void machineOfThrowsWithoutMachine() {
        for (PileTickets x : new PileTickets[] {new PileTickets(), Scenes.busy()}) {
            for (int machine : Check.outside(0, 1)) {
                Check.dueThrow(x, "machineOf(" + machine + ", 5)", Check.INDEX, () -> x.machineOf(machine, 5));
                Check.dueThrow(x, "machineOf(" + machine + ", 6)", Check.INDEX, () -> x.machineOf(machine, 6));
                Check.dueThrow(x, "machineOf(" + machine + ", -1)", Check.INDEX, () -> x.machineOf(machine, -1));
            }
        }
    }

    private static void machineOfThrowsOutOfRange() {
        PileTickets x = Scenes.busy();
        for (int what : Check.outside(0, 5)) {
            Check.dueThrow(x, "machineOf(0, " + what + ")", Check.ARGUMENT, () -> x.machineOf(0, what));
            Check.dueThrow(x, "machineOf(1, " + what + ")", Check.ARGUMENT, () -> x.machineOf(1, what));
        }
    }

    // ---- shelf

    private static void shelfTellsThePile() {
        PileTickets x = new PileTickets();
        x.takeIn(0, 1, 2, 9, false);
        x.takeIn(1, 1, 1, 5, false);
        x.load(1);
        x.load(0);
        // A pile in a machine stands on no shelf of the machine's number.
        Check.due("shelf(0)", x.shelf(0), -1);
        Check.due("shelf(1)", x.shelf(1), -1);
        x.pass(1);
        Check.due("shelf(0)", x.shelf(0), 1);
        Check.due("shelf(1)", x.shelf(1), -1);
        x.pass(1);
        Check.due("shelf(0)", x.shelf(0), 1);
        Check.due("shelf(1)", x.shelf(1), 0);
    }

    private static void shelfTakesEachShelf() {
        PileTickets x = Scenes.onShelves(8);
        for (int shelf = 0; shelf < 8; shelf++) {
            Check.due("shelf(" + shelf + ")", x.shelf(shelf), shelf);
        }
        for (int shelf : Check.outside(0, 7)) {
            Check.dueThrow(x, "shelf(" + shelf + ")", Check.INDEX, () -> x.shelf(shelf));
        }
    }

    private static void shelfTellsPlaces() {
        PileTickets x = Scenes.fullShelves();
        x.handOut(107, 7);
        x.handOut(100, 0);
        Check.due("shelf(7)", x.shelf(7), 8);
        Check.due("shelf(0), of the last place", x.shelf(0), 9);
        x.handOut(103, 3);
        Check.due("shelf(3), free", x.shelf(3), -1);
        PileTickets empty = new PileTickets();
        for (int shelf = 0; shelf < 8; shelf++) {
            Check.due("shelf(" + shelf + ") of an empty house", empty.shelf(shelf), -1);
        }
    }

    private static void shelfThrows() {
        for (PileTickets x : new PileTickets[] {new PileTickets(), Scenes.fullShelves()}) {
            for (int shelf : Check.outside(0, 7)) {
                Check.dueThrow(x, "shelf(" + shelf + ")", Check.INDEX, () -> x.shelf(shelf));
            }
        }
    }

    // ---- count

    private static void dueCounts(PileTickets x, int... due) {
        for (int what = 0; what <= 10; what++) {
            Check.due("count(" + what + ")", x.count(what), due[what]);
        }
    }

    private static void countFollowsTheHouse() {
        PileTickets x = new PileTickets();
        x.takeIn(0, 1, 5, 4, false);
        x.takeIn(0, 1, 5, 5, false);
        x.takeIn(1, 4, 5, 9, true);
        dueCounts(x, 0, 3, 3, 0, 0, 3, 0, 0, 0, 0, 3);
        x.rush(2);
        x.load(0);
        dueCounts(x, 0, 3, 1, 2, 0, 3, 0, 0, 0, 0, 5);
        x.load(0);
        dueCounts(x, 0, 3, 1, 2, 0, 3, 0, 0, 0, 1, 6);
        x.pass(5);
        dueCounts(x, 5, 3, 1, 0, 2, 3, 0, 1, 0, 1, 6);
        x.handOut(100, 1);
        dueCounts(x, 5, 3, 1, 0, 2, 3, 0, 1, 0, 2, 6);
        x.handOut(100, 0);
        dueCounts(x, 5, 2, 1, 0, 1, 3, 1, 1, 3, 2, 6);
        x.handOut(101, 1);
        dueCounts(x, 5, 1, 1, 0, 0, 3, 2, 1, 6, 2, 6);
        Scenes.type(x, "a1/1@1");
        x.read();
        dueCounts(x, 5, 2, 2, 0, 0, 4, 2, 1, 6, 2, 6);
        x.undo();
        x.undo();
        dueCounts(x, 5, 2, 1, 0, 1, 3, 1, 1, 3, 2, 4);
    }

    private static void countClock() {
        PileTickets x = new PileTickets();
        Check.due("count(0)", x.count(0), 0);
        x.pass(1);
        Check.due("count(0)", x.count(0), 1);
        Scenes.passTo(x, 99999);
        Check.due("count(0)", x.count(0), 99999);
        x.undo();
        Check.due("count(0) behind undo()", x.count(0), 99841);
    }

    /** A count of an empty house, a full one, and as ten piles are washed, find eight shelves, and one is handed out. */
    private static void dueCountsByStep(int what, int... due) {
        PileTickets x = new PileTickets();
        Check.due("count(" + what + ") at first", x.count(what), due[0]);
        Scenes.takeIn(x, 11);
        Check.due("count(" + what + ") of a full house", x.count(what), due[1]);
        x.load(1);
        Check.due("count(" + what + ") behind load(1)", x.count(what), due[2]);
        x.pass(1);
        Check.due("count(" + what + ") behind pass(1)", x.count(what), due[3]);
        x.handOut(101, 0);
        Check.due("count(" + what + ") behind a handOut refused", x.count(what), due[4]);
        x.handOut(100, 0);
        Check.due("count(" + what + ") behind handOut", x.count(what), due[5]);
        x.pass(240);
        Check.due("count(" + what + ") at the end", x.count(what), due[6]);
    }

    private static void countTakenIn() {
        dueCountsByStep(5, 0, 10, 10, 10, 10, 10, 10);
        PileTickets x = Scenes.onShelves(3);
        x.handOut(100, 0);
        Scenes.type(x, "a1/1@1;a1/1@1");
        x.read();
        Check.due("count(5)", x.count(5), 5);
        x.undo();
        Check.due("count(5) behind undo()", x.count(5), 3);
    }

    private static void countLate() {
        PileTickets x = new PileTickets();
        x.takeIn(0, 1, 5, 4, false);
        x.takeIn(0, 1, 5, 5, false);
        x.takeIn(0, 1, 5, 1, false);
        x.load(0);
        x.pass(4);
        Check.due("count(7) of a promise past in the machine", x.count(7), 0);
        x.pass(1);
        Check.due("count(7)", x.count(7), 2);
        x.handOut(100, 0);
        x.handOut(102, 2);
        x.pass(240);
        Check.due("count(7) behind handOut, and promises past on the shelf", x.count(7), 2);
        PileTickets full = Scenes.fullShelves();
        full.pass(11);
        Check.due("count(7) without a shelf", full.count(7), 0);
        full.handOut(100, 0);
        Check.due("count(7) within handOut()", full.count(7), 1);
    }

    private static void countFees() {
        PileTickets x = new PileTickets();
        x.takeIn(0, 1, 5, 5, false);
        x.takeIn(0, 3, 5, 4, true);
        x.takeIn(0, 4, 5, 5, true);
        x.load(0);
        x.pass(5);
        Check.due("count(8)", x.count(8), 0);
        x.handOut(100, 1);
        Check.due("count(8) behind a refusal", x.count(8), 0);
        x.handOut(100, 0);
        Check.due("count(8), without the 10 of the answer", x.count(8), 3);
        x.handOut(101, 1);
        Check.due("count(8)", x.count(8), 3 + 10);
        x.set(0, 9);
        Check.due("count(8) at another price since", x.count(8), 3 + 10);
        x.handOut(102, 2);
        Check.due("count(8)", x.count(8), 3 + 10 + 54);
        x.undo();
        Check.due("count(8) behind undo()", x.count(8), 3 + 10);
    }

    private static void countRefused() {
        PileTickets x = Scenes.waiting(10);
        Check.due("count(9)", x.count(9), 0);
        x.takeIn(0, 1, 1, 1, false);
        Check.due("count(9) behind takeIn", x.count(9), 1);
        Scenes.type(x, "a1/1@1;a1/1@1");
        x.read();
        Check.due("count(9) behind read", x.count(9), 2);
        x.handOut(100, 0);
        Check.due("count(9) behind handOut on a free shelf", x.count(9), 3);
        x.load(1);
        x.load(1);
        Check.due("count(9) behind load while it runs", x.count(9), 4);
        x.load(0);
        Check.due("count(9) behind load without a waiting pile", x.count(9), 5);
        x.pass(1);
        x.handOut(101, 0);
        Check.due("count(9) behind handOut with another ticket", x.count(9), 6);
        Check.dueThrow(x, "load(2), which throws", Check.INDEX, () -> x.load(2));
        Check.due("count(9)", x.count(9), 6);
        x.handOut(100, 0);
        x.set(0, 3);
        Check.due("count(9)", x.count(9), 6);
    }

    private static void countSaved() {
        PileTickets x = new PileTickets();
        for (int time = 0; time <= 8; time++) {
            Check.due("count(10)", x.count(10), Math.min(6, time));
            x.pass(1);
        }
        x.undo();
        Check.due("count(10)", x.count(10), 5);
    }

    /** As many calls as an object is for: 500 refusals, and 122 piles that go through the house. */
    private static void countOfALongRun() {
        PileTickets refused = new PileTickets();
        for (int time = 0; time < 500; time++) {
            refused.load(time % 2);
        }
        dueCounts(refused, 0, 0, 0, 0, 0, 0, 0, 0, 0, 500, 6);
        PileTickets x = new PileTickets();
        x.set(0, 9);
        for (int time = 0; time < 122; time++) {
            x.takeIn(0, 20, 1, 1, true);
            x.load(1);
            x.pass(time % 2 == 0 ? 1 : 240);
            Check.due("handOut", x.handOut(100 + time, 0), 280);
        }
        dueCounts(x, 61 * 241, 0, 0, 0, 0, 122, 122, 0, 122 * 270, 0, 6);
    }

    private static void countThrows() {
        for (PileTickets x : new PileTickets[] {new PileTickets(), Scenes.busy()}) {
            for (int what : Check.outside(0, 10)) {
                Check.dueThrow(x, "count(" + what + ")", Check.ARGUMENT, () -> x.count(what));
            }
        }
    }

    // ---- setting

    private static void settingAtFirst() {
        PileTickets x = new PileTickets();
        Check.due("setting(0)", x.setting(0), 3);
        Check.due("setting(1)", x.setting(1), 1);
    }

    private static void settingTakesEachSetting() {
        PileTickets x = new PileTickets();
        x.set(0, 8);
        Check.due("setting(0)", x.setting(0), 8);
        Check.due("setting(1)", x.setting(1), 1);
        for (int setting : Check.outside(0, 1)) {
            Check.dueThrow(x, "setting(" + setting + ")", Check.INDEX, () -> x.setting(setting));
        }
    }

    private static void settingTellsValues() {
        PileTickets x = new PileTickets();
        for (int value = 1; value <= 9; value++) {
            x.set(0, value);
            x.set(1, value % 2);
            Check.due("setting(0)", x.setting(0), value);
            Check.due("setting(1)", x.setting(1), value % 2);
        }
        x.undo();
        Check.due("setting(1) behind undo()", x.setting(1), 0);
    }

    private static void settingThrows() {
        for (PileTickets x : new PileTickets[] {new PileTickets(), Scenes.busy()}) {
            for (int setting : Check.outside(0, 1)) {
                Check.dueThrow(x, "setting(" + setting + ")", Check.INDEX, () -> x.setting(setting));
            }
        }
    }
}
