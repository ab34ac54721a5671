/** Promises 1 to 4: a new object, takeIn, handOut, rush. */
public final class PilesTest {
    public static void main(String[] args) {
        Sentences.test(1, "Creates an empty house at the clock 0, with empty slots and an empty buffer.",
                PilesTest::newObject);
        takeIn();
        handOut();
        rush();
        Sentences.end(1, 2, 3, 4);
    }

    private static void takeIn() {
        Sentences.test(2, "Takes a pile in.", PilesTest::takeInGivesTicketsAndPlaces);
        Sentences.test(2, "Undoable, also if it is refused.", PilesTest::takeInIsUndoable);
        Sentences.test(2, "`colour`: 0 to 3", () -> dueArgument(1, 0, 3));
        Sentences.test(2, "`weight`: 1 to 20", () -> dueArgument(2, 1, 20));
        Sentences.test(2, "`time`: its washing time, 1 to 60", () -> dueArgument(3, 1, 60));
        Sentences.test(2, "`within`: in how many minutes it is promised, 1 to 999", () -> dueArgument(4, 1, 999));
        Sentences.test(2, "`isRush`: whether it is a rush", PilesTest::takeInTellsRushes);
        Sentences.test(2, "Returns its ticket; NONE if it is refused, as there are 10 piles in the house.",
                PilesTest::takeInIsRefusedWhenFull);
        Sentences.test(2, "Throws `IllegalArgumentException` if an argument is out of range", PilesTest::takeInThrows);
    }

    private static void handOut() {
        Sentences.test(3, "Hands a pile out.", PilesTest::handOutTakesThePileAway);
        Sentences.test(3, "Undoable, also if it is refused.", PilesTest::handOutIsUndoable);
        Sentences.test(3, "`ticket`: any number", PilesTest::handOutTakesAnyTicket);
        Sentences.test(3, "`shelf`: 0 to 7", PilesTest::handOutTakesEachShelf);
        Sentences.test(3, "Returns the fee, and 10, together; if it is refused the reason.", PilesTest::handOutAnswers);
        Sentences.test(3, "Throws `IndexOutOfBoundsException` if there is no such shelf", PilesTest::handOutThrows);
    }

    private static void rush() {
        Sentences.test(4, "Makes a waiting pile a rush, or takes that back.", PilesTest::rushTurns);
        Sentences.test(4, "Undoable.", PilesTest::rushIsUndoable);
        Sentences.test(4, "`place`: 0 to 9", PilesTest::rushTakesEachPlace);
        Sentences.test(4, "Returns 1 if it is a rush then, otherwise 0.", PilesTest::rushAnswers);
        Sentences.test(4, "Throws `IndexOutOfBoundsException` if there is no pile at the place",
                PilesTest::rushThrowsWithoutPile);
        Sentences.test(4, "Throws `IllegalStateException` if it does not wait", PilesTest::rushThrowsIfItDoesNotWait);
    }

    private static void newObject() {
        PileTickets x = new PileTickets();
        for (int what = 0; what <= 10; what++) {
            Check.due("count(" + what + ")", x.count(what), 0);
        }
        for (int place = 0; place < 10; place++) {
            for (int what = 0; what <= 10; what++) {
                Check.due("pileOf(" + place + ", " + what + ")", x.pileOf(place, what), -1);
            }
        }
        for (int machine = 0; machine < 2; machine++) {
            int[] due = {30 + 10 * machine, 0, -1, 0, -1, 0};
            for (int what = 0; what <= 5; what++) {
                Check.due("machineOf(" + machine + ", " + what + ")", x.machineOf(machine, what), due[what]);
            }
            Check.due("ifLoaded(" + machine + ")", x.ifLoaded(machine), 0);
        }
        for (int shelf = 0; shelf < 8; shelf++) {
            Check.due("shelf(" + shelf + ")", x.shelf(shelf), -1);
        }
        Check.due("setting(0)", x.setting(0), 3);
        Check.due("setting(1)", x.setting(1), 1);
        Check.due("waiting(0)", x.waiting(0), -1);
        Check.due("endsIn()", x.endsIn(), -1);
        Check.due("fewestLate(0)", x.fewestLate(0), 0);
        Check.due("fewestLate(1)", x.fewestLate(1), 0);
        Check.dueShare("lateShare()", x.lateShare(), 0.0);
        Check.due("firstError()", x.firstError(), 0);
        Check.dueThrow(x, "goBack(0)", Check.STATE, () -> x.goBack(0));
        Check.dueThrow(x, "goBack(1)", Check.STATE, () -> x.goBack(1));
        Check.dueThrow(x, "undo()", Check.STATE, x::undo);
        Check.due("clearBuffer()", x.clearBuffer(), 0);
        nothingIsSharedByTwoObjects();
    }

    private static void nothingIsSharedByTwoObjects() {
        PileTickets used = Scenes.busy();
        used.set(0, 9);
        used.room(0, 10);
        Check.due("digest() of a new object beside another", new PileTickets().digest(), -6113168286903869956L);
    }

    // ---- takeIn

    private static void takeInGivesTicketsAndPlaces() {
        PileTickets x = new PileTickets();
        x.pass(7);
        Check.due("takeIn", x.takeIn(3, 4, 5, 6, true), 100);
        Check.due("takeIn", x.takeIn(1, 2, 9, 30, false), 101);
        long[][] due = {{100, 3, 4, 5, 13, 1, 0, -1, 0, -1, 18}, {101, 1, 2, 9, 37, 0, 0, -1, 1, -1, 6}};
        for (int place = 0; place < 2; place++) {
            for (int what = 0; what <= 10; what++) {
                Check.due("pileOf(" + place + ", " + what + ")", x.pileOf(place, what), due[place][what]);
            }
        }
        Check.due("count(1)", x.count(1), 2);
        Check.due("count(2)", x.count(2), 2);
        Check.due("count(5)", x.count(5), 2);
        Check.due("count(9)", x.count(9), 0);
        Check.due("count(10)", x.count(10), 3);
    }

    private static void takeInIsUndoable() {
        PileTickets x = Scenes.waiting(3);
        Check.dueUndoable(x, "takeIn", () -> x.takeIn(3, 20, 60, 999, true), 103);
        Check.due("takeIn, with the same ticket anew", x.takeIn(0, 1, 1, 1, false), 103);
        PileTickets full = Scenes.withOneSaved(Scenes.waiting(10));
        Check.dueUndoable(full, "takeIn into a full house", () -> full.takeIn(3, 20, 60, 999, true), -1);
        Check.due("count(9)", full.count(9), 0);
    }

    /** Each number of the range is taken for a property, and none outside of it. */
    private static void dueArgument(int property, int least, int most) {
        for (int value = least; value <= most; value++) {
            PileTickets x = new PileTickets();
            Check.due("takeIn with " + value, takeInWith(x, property, value), 100);
            Check.due("pileOf(0, " + property + ")", x.pileOf(0, property), value);
        }
        PileTickets x = new PileTickets();
        for (int value : Check.outside(least, most)) {
            Check.dueThrow(x, "takeIn with " + value, Check.ARGUMENT, () -> takeInWith(x, property, value));
        }
    }

    private static int takeInWith(PileTickets x, int property, int value) {
        int[] properties = {0, 2, 5, 7, 9};
        properties[property] = value;
        return x.takeIn(properties[1], properties[2], properties[3], properties[4], false);
    }

    private static void takeInTellsRushes() {
        PileTickets x = new PileTickets();
        x.takeIn(0, 1, 1, 1, true);
        x.takeIn(0, 1, 1, 1, false);
        x.takeIn(0, 1, 1, 1, true);
        Check.due("pileOf(0, 5)", x.pileOf(0, 5), 1);
        Check.due("pileOf(1, 5)", x.pileOf(1, 5), 0);
        Check.due("pileOf(2, 5)", x.pileOf(2, 5), 1);
    }

    private static void takeInIsRefusedWhenFull() {
        PileTickets x = new PileTickets();
        for (int pile = 0; pile < 10; pile++) {
            Check.due("takeIn", x.takeIn(0, 1, 1, 1, false), 100 + pile);
        }
        Check.dueRefused(x, "takeIn into a full house", () -> x.takeIn(1, 20, 60, 999, true), -1);
        // Piles in machines and on shelves are in the house, too.
        PileTickets full = Scenes.fullShelves();
        Check.dueRefused(full, "takeIn into a full house", () -> full.takeIn(1, 20, 60, 999, true), -1);
        full.handOut(100, 0);
        Check.due("takeIn with a place free again", full.takeIn(1, 20, 60, 999, true), 110);
        Check.due("takeIn into a house full again", full.takeIn(1, 20, 60, 999, true), -1);
        Check.due("count(9)", full.count(9), 2);
    }

    private static void takeInThrows() {
        int[][] wrong = {{-1, 1, 1, 1}, {4, 1, 1, 1}, {3, 0, 60, 999}, {3, 21, 60, 999}, {0, 1, 0, 1}, {0, 1, 61, 1},
            {3, 20, 60, 0}, {3, 20, 60, 1000}, {-1, 0, 0, 0}, {4, 21, 61, 1000}, {Integer.MIN_VALUE, 1, 1, 1},
            {0, Integer.MIN_VALUE, 1, 1}, {0, 1, Integer.MAX_VALUE, 1}, {0, 1, 1, Integer.MAX_VALUE}};
        // A wrong argument throws in a full house also, and is not counted as refused there.
        for (PileTickets x : new PileTickets[] {new PileTickets(), Scenes.waiting(10), Scenes.busy()}) {
            for (int[] w : wrong) {
                Check.dueThrow(x, "takeIn", Check.ARGUMENT, () -> x.takeIn(w[0], w[1], w[2], w[3], true));
            }
        }
    }

    // ---- handOut

    private static void handOutTakesThePileAway() {
        PileTickets x = Scenes.onShelves(3);
        Check.due("handOut(101, 1)", x.handOut(101, 1), 13);
        for (int what = 0; what <= 10; what++) {
            Check.due("pileOf(1, " + what + ")", x.pileOf(1, what), -1);
        }
        Check.due("shelf(0)", x.shelf(0), 0);
        Check.due("shelf(1)", x.shelf(1), -1);
        Check.due("shelf(2)", x.shelf(2), 2);
        Check.due("count(1)", x.count(1), 2);
        Check.due("count(4)", x.count(4), 2);
        Check.due("count(6)", x.count(6), 1);
        Check.due("count(8)", x.count(8), 3);
        Check.due("count(9)", x.count(9), 0);
        Check.due("handOut(101, 1) again", x.handOut(101, 1), 1);
    }

    private static void handOutIsUndoable() {
        PileTickets x = Scenes.withOneSaved(Scenes.onShelves(2));
        Check.dueUndoable(x, "handOut(101, 1)", () -> x.handOut(101, 1), 13);
        Check.dueUndoable(x, "handOut on a free shelf", () -> x.handOut(101, 2), 1);
        Check.dueUndoable(x, "handOut with another ticket", () -> x.handOut(101, 0), 2);
        Check.due("handOut(101, 1) after all", x.handOut(101, 1), 13);
        PileTickets full = Scenes.withOneSaved(Scenes.fullShelves());
        full.pass(60);
        Check.dueUndoable(full, "handOut that frees a shelf for a late pile", () -> full.handOut(100, 0), 13);
        Check.due("shelf(0)", full.shelf(0), 0);
        Check.due("count(7)", full.count(7), 0);
    }

    private static void handOutTakesAnyTicket() {
        PileTickets x = Scenes.onShelves(2);
        for (int ticket : new int[] {Integer.MIN_VALUE, -1, 0, 1, 99, 101, 102, Integer.MAX_VALUE}) {
            Check.due("handOut(" + ticket + ", 0)", x.handOut(ticket, 0), 2);
            Check.due("handOut(" + ticket + ", 7)", x.handOut(ticket, 7), 1);
        }
        Check.due("handOut(100, 0)", x.handOut(100, 0), 13);
        // NONE is no ticket of a free place.
        Check.due("handOut(-1, 0)", x.handOut(-1, 0), 1);
        Check.due("handOut(-1, 0) in an empty house", new PileTickets().handOut(-1, 0), 1);
    }

    private static void handOutTakesEachShelf() {
        PileTickets x = Scenes.onShelves(8);
        for (int shelf = 7; shelf >= 0; shelf--) {
            Check.due("handOut(.., " + shelf + ")", x.handOut(100 + shelf, shelf), 13);
            Check.due("shelf(" + shelf + ")", x.shelf(shelf), -1);
            Check.due("count(4)", x.count(4), shelf);
        }
        for (int shelf : Check.outside(0, 7)) {
            Check.dueThrow(x, "handOut(107, " + shelf + ")", Check.INDEX, () -> x.handOut(107, shelf));
        }
    }

    private static void handOutAnswers() {
        PileTickets cheap = Scenes.washed(1, 4, false);
        cheap.set(0, 1);
        Check.due("handOut at the least fee", cheap.handOut(100, 0), 11);
        Check.due("count(8)", cheap.count(8), 1);
        PileTickets dear = Scenes.washed(20, 5, true);
        dear.set(0, 9);
        Check.due("handOut at the greatest fee", dear.handOut(100, 0), 280);
        Check.due("count(8)", dear.count(8), 270);
        PileTickets x = Scenes.onShelves(2);
        Check.dueRefused(x, "handOut on a free shelf", () -> x.handOut(100, 2), 1);
        PileTickets y = Scenes.onShelves(2);
        Check.dueRefused(y, "handOut with another ticket", () -> y.handOut(100, 1), 2);
        PileTickets running = Scenes.waiting(1);
        running.load(0);
        Check.dueRefused(running, "handOut of a pile in machine 0", () -> running.handOut(100, 0), 1);
    }

    private static void handOutThrows() {
        for (PileTickets x : new PileTickets[] {new PileTickets(), Scenes.fullShelves(), Scenes.busy()}) {
            for (int shelf : Check.outside(0, 7)) {
                Check.dueThrow(x, "handOut(100, " + shelf + ")", Check.INDEX, () -> x.handOut(100, shelf));
                Check.dueThrow(x, "handOut(-1, " + shelf + ")", Check.INDEX, () -> x.handOut(-1, shelf));
            }
        }
    }

    // ---- rush

    private static void rushTurns() {
        PileTickets x = new PileTickets();
        x.takeIn(0, 3, 1, 5, false);
        x.takeIn(0, 3, 1, 9, false);
        x.rush(1);
        Check.due("pileOf(0, 5)", x.pileOf(0, 5), 0);
        Check.due("pileOf(1, 5)", x.pileOf(1, 5), 1);
        Check.due("pileOf(1, 10)", x.pileOf(1, 10), 13);
        Check.due("waiting(0)", x.waiting(0), 1);
        x.rush(1);
        Check.due("pileOf(1, 5)", x.pileOf(1, 5), 0);
        Check.due("pileOf(1, 10)", x.pileOf(1, 10), 9);
        Check.due("waiting(0)", x.waiting(0), 0);
        // Where rushes do not go first, a rush costs more all the same.
        x.set(1, 0);
        x.rush(1);
        Check.due("waiting(0)", x.waiting(0), 0);
        Check.due("pileOf(1, 10)", x.pileOf(1, 10), 13);
        Check.due("count(9)", x.count(9), 0);
    }

    private static void rushIsUndoable() {
        PileTickets x = Scenes.waiting(2);
        Check.dueUndoable(x, "rush(1)", () -> x.rush(1), 1);
        x.rush(1);
        Check.dueUndoable(x, "rush(1) that takes it back", () -> x.rush(1), 0);
        Check.due("pileOf(1, 5)", x.pileOf(1, 5), 1);
    }

    private static void rushTakesEachPlace() {
        PileTickets x = Scenes.waiting(10);
        for (int place = 0; place < 10; place++) {
            Check.due("rush(" + place + ")", x.rush(place), 1);
            for (int other = 0; other < 10; other++) {
                Check.due("pileOf(" + other + ", 5)", x.pileOf(other, 5), other <= place ? 1 : 0);
            }
        }
        for (int place : Check.outside(0, 9)) {
            Check.dueThrow(x, "rush(" + place + ")", Check.INDEX, () -> x.rush(place));
        }
    }

    private static void rushAnswers() {
        PileTickets x = new PileTickets();
        x.takeIn(0, 1, 1, 1, false);
        x.takeIn(0, 1, 1, 1, true);
        for (int turn = 0; turn < 4; turn++) {
            Check.due("rush(0)", x.rush(0), 1 - turn % 2);
            Check.due("rush(1), taken in as a rush", x.rush(1), turn % 2);
        }
    }

    private static void rushThrowsWithoutPile() {
        PileTickets x = Scenes.waiting(3);
        PileTickets empty = new PileTickets();
        for (int place = 0; place < 10; place++) {
            int at = place;
            Check.dueThrow(empty, "rush in an empty house", Check.INDEX, () -> empty.rush(at));
            if (place >= 3) {
                Check.dueThrow(x, "rush(" + place + ")", Check.INDEX, () -> x.rush(at));
            }
        }
        for (int place : Check.outside(0, 9)) {
            Check.dueThrow(x, "rush(" + place + ")", Check.INDEX, () -> x.rush(place));
        }
        PileTickets handedOut = Scenes.onShelves(2);
        handedOut.handOut(100, 0);
        Check.dueThrow(handedOut, "rush of a pile handed out", Check.INDEX, () -> handedOut.rush(0));
    }

    private static void rushThrowsIfItDoesNotWait() {
        PileTickets x = Scenes.waiting(1);
        x.load(0);
        Check.dueThrow(x, "rush in a machine", Check.STATE, () -> x.rush(0));
        x.pass(1);
        Check.dueThrow(x, "rush on a shelf", Check.STATE, () -> x.rush(0));
        PileTickets full = Scenes.fullShelves();
        for (int place = 0; place < 10; place++) {
            int at = place;
            Check.dueThrow(full, "rush on a shelf or in an ended machine", Check.STATE, () -> full.rush(at));
        }
    }
}
