import java.util.function.ToIntFunction;

/** What the document says ahead of promise 1: the terms that several promises share. */
public final class TermsTest {
    public static void main(String[] args) {
        numbersAndPiles();
        machines();
        shelves();
        feesAndHandingOut();
        settings();
        texts();
        snapshots();
        exceptions();
        looks();
        Sentences.end(Sentences.TERMS);
    }

    private static void sentence(String words, Runnable test) {
        Sentences.test(Sentences.TERMS, words, test);
    }

    private static void numbersAndPiles() {
        sentence("An object is used for at most 512 calls after it has been made; what later calls answer is free.",
                TermsTest::call512IsAnswered);
        sentence("The constants: `NONE = -1`: There is nothing to return.", TermsTest::noneIsMinusOne);
        sentence("All numbers are integers, but for a share; divisions are rounded down.",
                TermsTest::divisionsAreRoundedDown);
        sentence("There are at most 10 piles in the house, at the places 0 to 9.",
                TermsTest::tenPilesAtTenPlaces);
        sentence("A pile has a ticket, a colour, 0 to 3, a weight, 1 to 20, a washing time, 1 to 60 minutes, a promise, "
                + "the clock at which it should be done, and is a rush or not.", TermsTest::leastAndGreatestPile);
        sentence("It waits (0), is in a machine (1), or stands on a shelf (2).", TermsTest::statesOfAPile);
        sentence("A pile that is taken in gets the lowest free place, and the next ticket:",
                TermsTest::lowestPlaceAndNextTicket);
        sentence("tickets are numbered from 100 on, each number once, also when piles were handed out.",
                TermsTest::eachTicketOnce);
        sentence("The order of waiting piles: rushes ahead of others, then the earlier promise ahead of a later one, "
                + "then the lesser ticket ahead of a greater one.", TermsTest::orderOfWaitingPiles);
    }

    private static void machines() {
        sentence("There are 2 machines, numbered from 0, with a room, 10 to 60, at first 30 and 40.",
                TermsTest::twoMachines);
        sentence("A machine is idle, or it runs until a clock.", TermsTest::idleUpToLoadAndFromItsEnd);
        sentence("To load an idle machine: the first one of the waiting piles in their order whose weight is at most "
                + "its room is put in;", TermsTest::firstLightPileIsPutIn);
        sentence("then, of the others in their order, each that has the same colour, and whose weight the machine has "
                + "room for beside those in it.", TermsTest::othersOfTheColourThatFit);
        sentence("It runs as long as the longest washing time of those in it tells, from now on.",
                TermsTest::runsForTheLongest);
    }

    private static void shelves() {
        sentence("There are 8 shelves, numbered from 0; on each stands at most one pile.",
                TermsTest::eightShelves);
        sentence("When the clock comes to the end of a machine, its piles, by ascending tickets, are put on the lowest "
                + "free shelves.", TermsTest::ascendingTicketsOnLowestShelves);
        sentence("As long as a pile finds none, it stays in the machine, which is not idle;",
                TermsTest::staysInTheMachine);
        sentence("it is tried anew whenever a shelf becomes free, within handOut() itself, at the clock of then,",
                TermsTest::triedAnewWithinHandOut);
        sentence("the machine 0 first.", TermsTest::machineZeroIsTriedFirst);
        sentence("A pile is late if it is put on a shelf at a clock later than its promise.",
                TermsTest::lateIsBehindThePromise);
    }

    private static void feesAndHandingOut() {
        sentence("The fee of a pile is setting 0 times its weight;", () -> dueFees(false, false));
        sentence("half of that more if it is a rush;", () -> dueFees(true, false));
        sentence("and if it is late, a quarter of the sum less.", TermsTest::feesOfLatePiles);
        sentence("A pile is handed out for a ticket and a shelf, if none of these is so, the first of which is the reason:",
                TermsTest::handedOutForTicketAndShelf);
        sentence("1: no pile stands on the shelf;", TermsTest::reasonOfAFreeShelf);
        sentence("2: the pile there has another ticket.", TermsTest::reasonOfAnotherTicket);
    }

    private static void settings() {
        sentence("0: what a weight of 1 costs, 1 to 9, at first 3;", TermsTest::priceOfAWeight);
        sentence("1: whether rushes go first (1) or are in the order as others (0), at first 1.",
                TermsTest::rushesFirstOrNot);
    }

    private static void texts() {
        sentence("The buffer has at most 60 characters.", TermsTest::bufferOfSixty);
        sentence("Piles as a text are one or more of these with \";\" between them:",
                TermsTest::pilesWithSeparators);
        sentence("a letter for the colour, \"a\" to \"d\" (for 0 to 3), a weight, 1 to 20, \"/\", a washing time, 1 to 60, "
                + "\"@\", in how many minutes it is promised, 1 to 999, and then perhaps \"!\" (a rush).", TermsTest::partsOfAPile);
        sentence("Numbers are without leading zeros.", TermsTest::noLeadingZeros);
        sentence("The buffer is read from left to right; a character is a syntax error if no piles as a text, of any "
                + "length, begin with the characters before it and this character.", TermsTest::errorIfNothingBeginsSo);
    }

    private static void snapshots() {
        sentence("There are two slots; a snapshot is all but the buffer, the slots and the saved states.",
                TermsTest::snapshotIsAllBut);
        sentence("Each method that is marked \"undoable\" and does not throw an exception saves the state from before it "
                + "(also if it changes nothing, or is refused):", TermsTest::whichMethodsSave);
        sentence("all, also what is counted so far, but the buffer, the slots and the saved states.",
                TermsTest::savedStateIsAllBut);
        sentence("At most 6 states are saved; the oldest one is dropped first.", TermsTest::sixAreSaved);
    }

    private static void exceptions() {
        sentence("A call that throws an exception changes nothing (the buffer stays as it is, too).",
                TermsTest::throwingChangesNothing);
        sentence("If several exceptions apply, the one that is named first in the throws clause is thrown.",
                TermsTest::firstNamedIsThrown);
    }

    private static void looks() {
        sentence("Ahead of the calls `pileOf`, `machineOf`, `shelf`, `count`, `setting` the interface says: "
                + "---- looks; nothing is changed.", TermsTest::looksChangeNothing);
        sentence("Ahead of the calls `waiting`, `ifLoaded`, `endsIn`, `fewestLate`, `lateShare`, `digest` the interface "
                + "says: ---- what would be; nothing is changed.", TermsTest::forecastsChangeNothing);
    }

    // ---- numbers, piles

    private static void call512IsAnswered() {
        PileTickets passed = new PileTickets();
        PileTickets refused = new PileTickets();
        PileTickets typed = new PileTickets();
        PileTickets full = Scenes.waiting(10);
        for (int call = 1; call <= 510; call++) {
            passed.pass(1);
            refused.load(1);
            if (call % 61 == 0) {
                typed.clearBuffer();
            } else {
                typed.append('a');
            }
        }
        Check.due("pass(1) as call 511", passed.pass(1), 0);
        Check.due("count(0) as call 512", passed.count(0), 511);
        Check.due("undo() as call 511", refused.undo(), 5);
        Check.due("count(9) as call 512", refused.count(9), 509);
        Check.due("append as call 511", typed.append('a'), 23);
        Check.due("firstError() as call 512", typed.firstError(), 1);
        for (int call = 11; call <= 511; call++) {
            full.takeIn(0, 1, 1, 1, false);
        }
        Check.due("count(9) as call 512", full.count(9), 501);
    }

    private static void noneIsMinusOne() {
        Check.due("NONE", PileTickets.NONE, -1);
        PileTickets x = new PileTickets();
        Check.due("load(0)", x.load(0), PileTickets.NONE);
        Check.due("pileOf(0, 0)", x.pileOf(0, 0), PileTickets.NONE);
        Check.due("machineOf(0, 2)", x.machineOf(0, 2), PileTickets.NONE);
        Check.due("machineOf(0, 4)", x.machineOf(0, 4), PileTickets.NONE);
        Check.due("shelf(0)", x.shelf(0), PileTickets.NONE);
        Check.due("waiting(0)", x.waiting(0), PileTickets.NONE);
        Check.due("endsIn()", x.endsIn(), PileTickets.NONE);
        Check.due("takeIn", Scenes.waiting(10).takeIn(0, 1, 1, 1, false), PileTickets.NONE);
    }

    private static void divisionsAreRoundedDown() {
        // At a price of 1: half of the weight more, and a quarter of the sum less.
        int[] rushes = {1, 3, 4, 6, 7, 9, 10, 12, 13};
        int[] late = {1, 2, 3, 3, 4, 5, 6, 6, 7};
        int[] lateRushes = {1, 3, 3, 5, 6, 7, 8, 9, 10};
        for (int weight = 1; weight <= 9; weight++) {
            dueFee(weight, true, false, 1, rushes[weight - 1]);
            dueFee(weight, false, true, 1, late[weight - 1]);
            dueFee(weight, true, true, 1, lateRushes[weight - 1]);
        }
        PileTickets x = Scenes.washed(1, 4, false);
        x.takeIn(0, 1, 1, 1, false);
        x.load(0);
        x.pass(1);
        Check.dueShare("lateShare(), which is not rounded", x.lateShare(), 0.5);
    }

    private static void dueFee(int weight, boolean isRush, boolean isLate, int price, int fee) {
        PileTickets x = Scenes.washed(weight, isLate ? 4 : 5, isRush);
        x.set(0, price);
        Check.due("pileOf(0, 10) of the weight " + weight + " at " + price, x.pileOf(0, 10), fee);
        Check.due("handOut of the weight " + weight + " at " + price, x.handOut(100, 0), fee + 10);
        Check.due("count(8)", x.count(8), fee);
    }

    private static void tenPilesAtTenPlaces() {
        PileTickets x = new PileTickets();
        for (int place = 0; place < 10; place++) {
            x.takeIn(0, 1, 1, 1, false);
            Check.due("pileOf(" + place + ", 0)", x.pileOf(place, 0), 100 + place);
            Check.due("count(1)", x.count(1), place + 1);
        }
        Check.due("takeIn of the 11th", x.takeIn(0, 1, 1, 1, false), -1);
        Check.due("count(1)", x.count(1), 10);
        PileTickets full = Scenes.fullShelves();
        Check.due("takeIn beside 8 on shelves and 2 in a machine", full.takeIn(0, 1, 1, 1, false), -1);
        full.handOut(100, 0);
        Check.due("takeIn with a place free", full.takeIn(0, 1, 1, 1, false), 110);
        Check.due("takeIn of the 11th", full.takeIn(0, 1, 1, 1, false), -1);
        Check.due("count(1)", full.count(1), 10);
    }

    private static void leastAndGreatestPile() {
        PileTickets x = new PileTickets();
        Scenes.passTo(x, 99999);
        x.takeIn(0, 1, 1, 1, false);
        x.takeIn(3, 20, 60, 999, true);
        int[][] due = {{100, 0, 1, 1, 100000, 0}, {101, 3, 20, 60, 100998, 1}};
        for (int place = 0; place < 2; place++) {
            for (int what = 0; what <= 5; what++) {
                Check.due("pileOf(" + place + ", " + what + ")", x.pileOf(place, what), due[place][what]);
            }
        }
    }

    private static void statesOfAPile() {
        PileTickets x = Scenes.waiting(1);
        Check.due("pileOf(0, 6)", x.pileOf(0, 6), 0);
        x.load(0);
        Check.due("pileOf(0, 6)", x.pileOf(0, 6), 1);
        x.pass(1);
        Check.due("pileOf(0, 6)", x.pileOf(0, 6), 2);
        x.handOut(100, 0);
        Check.due("pileOf(0, 6)", x.pileOf(0, 6), -1);
        x.takeIn(0, 1, 1, 1, false);
        Check.due("pileOf(0, 6) of the next pile", x.pileOf(0, 6), 0);
    }

    private static void lowestPlaceAndNextTicket() {
        PileTickets x = Scenes.onShelves(5);
        x.handOut(103, 3);
        x.handOut(101, 1);
        int[] places = {1, 3, 5, 6};
        for (int pile = 0; pile < 4; pile++) {
            Check.due("takeIn", x.takeIn(0, 1, 1, 9, false), 105 + pile);
            Check.due("pileOf(" + places[pile] + ", 0)", x.pileOf(places[pile], 0), 105 + pile);
        }
        PileTickets full = Scenes.fullShelves();
        full.handOut(107, 7);
        full.handOut(100, 0);
        Check.due("takeIn", full.takeIn(0, 1, 1, 9, false), 110);
        Check.due("pileOf(0, 0), the first place", full.pileOf(0, 0), 110);
        Check.due("takeIn", full.takeIn(0, 1, 1, 9, false), 111);
        Check.due("pileOf(7, 0)", full.pileOf(7, 0), 111);
    }

    private static void eachTicketOnce() {
        PileTickets x = new PileTickets();
        for (int time = 0; time < 30; time++) {
            Check.due("takeIn in place of a pile handed out", x.takeIn(0, 1, 1, 9, false), 100 + time);
            x.load(0);
            x.pass(1);
            x.handOut(100 + time, 0);
        }
        PileTickets full = Scenes.waiting(10);
        full.takeIn(0, 1, 1, 1, false);
        full.load(1);
        full.pass(1);
        full.handOut(109, 0);
        full.handOut(100, 0);
        Check.due("takeIn, as a refusal used up no ticket", full.takeIn(0, 1, 1, 1, false), 110);
    }

    private static void dueOrder(PileTickets x, int... places) {
        for (int rank = 0; rank <= places.length; rank++) {
            Check.due("waiting(" + rank + ")", x.waiting(rank), rank < places.length ? places[rank] : -1);
        }
        for (int rank = 0; rank < places.length; rank++) {
            Check.due("pileOf(" + places[rank] + ", 8)", x.pileOf(places[rank], 8), rank);
        }
    }

    private static void orderOfWaitingPiles() {
        PileTickets x = new PileTickets();
        x.takeIn(0, 1, 1, 1, false);
        x.takeIn(0, 1, 1, 999, true);
        dueOrder(x, 1, 0);
        x.takeIn(0, 1, 1, 998, true);
        x.takeIn(0, 1, 1, 2, false);
        dueOrder(x, 2, 1, 0, 3);
        // The same promise, whenever it was given: the lesser ticket is ahead.
        PileTickets y = Scenes.onShelves(2);
        y.takeIn(0, 1, 1, 12, false);
        y.takeIn(0, 1, 1, 11, false);
        y.handOut(100, 0);
        y.pass(10);
        y.takeIn(0, 1, 1, 1, false);
        y.takeIn(0, 1, 1, 2, false);
        dueOrder(y, 3, 0, 2, 4);
        Check.due("pileOf(0, 0) of the lowest place", y.pileOf(0, 0), 104);
        y.rush(4);
        y.rush(2);
        dueOrder(y, 2, 4, 3, 0);
    }

    // ---- machines

    private static void twoMachines() {
        PileTickets x = new PileTickets();
        Check.due("machineOf(0, 0)", x.machineOf(0, 0), 30);
        Check.due("machineOf(1, 0)", x.machineOf(1, 0), 40);
        Check.due("room(0, 10)", x.room(0, 10), 30);
        Check.due("room(1, 60)", x.room(1, 60), 40);
        Check.dueThrow(x, "room(0, 9)", Check.ARGUMENT, () -> x.room(0, 9));
        Check.dueThrow(x, "room(1, 61)", Check.ARGUMENT, () -> x.room(1, 61));
        Check.dueThrow(x, "machineOf(2, 0)", Check.INDEX, () -> x.machineOf(2, 0));
        Check.dueThrow(x, "machineOf(-1, 0)", Check.INDEX, () -> x.machineOf(-1, 0));
    }

    private static void idleUpToLoadAndFromItsEnd() {
        PileTickets x = new PileTickets();
        x.takeIn(0, 1, 7, 50, false);
        x.takeIn(1, 1, 7, 50, false);
        x.pass(3);
        Check.due("machineOf(0, 4)", x.machineOf(0, 4), -1);
        x.load(0);
        for (int clock = 3; clock < 10; clock++) {
            Check.due("machineOf(0, 4) at " + clock, x.machineOf(0, 4), 10);
            Check.due("pileOf(0, 6) at " + clock, x.pileOf(0, 6), 1);
            x.pass(1);
        }
        Check.due("machineOf(0, 4) at its end", x.machineOf(0, 4), -1);
        Check.due("load(0) at its end", x.load(0), 1);
    }

    private static void firstLightPileIsPutIn() {
        PileTickets x = new PileTickets();
        x.room(0, 10);
        x.takeIn(2, 11, 5, 10, true);
        x.takeIn(3, 10, 5, 11, true);
        x.takeIn(2, 4, 5, 5, false);
        Check.due("ifLoaded(0)", x.ifLoaded(0), 1 << 1);
        Check.due("load(0), the first one too heavy by 1", x.load(0), 10);
        Check.due("machineOf(0, 2)", x.machineOf(0, 2), 3);
        Check.due("waiting(0)", x.waiting(0), 0);
        x.room(1, 11);
        Check.due("load(1), the first one just light enough", x.load(1), 11);
        Check.due("waiting(0)", x.waiting(0), 2);
    }

    private static void othersOfTheColourThatFit() {
        PileTickets x = new PileTickets();
        x.takeIn(1, 10, 5, 10, false);
        x.takeIn(0, 1, 5, 11, false);
        x.takeIn(1, 11, 5, 12, false);
        x.takeIn(1, 10, 5, 13, false);
        x.takeIn(1, 1, 5, 14, false);
        // 10 and 11 leave 9 of the room 30: the next, of 10, is passed over, the last one fits.
        Check.due("ifLoaded(0)", x.ifLoaded(0), 1 | 1 << 2 | 1 << 4);
        x.room(0, 31);
        Check.due("ifLoaded(0) with room for all but the last", x.ifLoaded(0), 1 | 1 << 2 | 1 << 3);
        x.room(0, 32);
        Check.due("ifLoaded(0) with room for all of the colour", x.ifLoaded(0), 1 | 1 << 2 | 1 << 3 | 1 << 4);
        Check.due("load(0)", x.load(0), 32);
        Check.due("pileOf(1, 6) of the other colour", x.pileOf(1, 6), 0);
        Check.due("count(3)", x.count(3), 4);
    }

    private static void runsForTheLongest() {
        PileTickets x = new PileTickets();
        x.pass(100);
        x.takeIn(2, 1, 17, 10, false);
        x.takeIn(2, 1, 23, 10, true);
        x.takeIn(2, 1, 9, 10, false);
        x.takeIn(1, 1, 60, 10, false);
        x.load(1);
        Check.due("machineOf(1, 4)", x.machineOf(1, 4), 123);
        Check.due("pass(22)", x.pass(22), 0);
        Check.due("pass(1)", x.pass(1), 3);
        x.load(1);
        Check.due("machineOf(1, 4)", x.machineOf(1, 4), 183);
        PileTickets last = Scenes.waiting(1);
        Scenes.passTo(last, 99999);
        last.load(0);
        Check.due("machineOf(0, 4) behind the last clock", last.machineOf(0, 4), 100000);
    }

    // ---- shelves

    private static void eightShelves() {
        PileTickets x = Scenes.fullShelves();
        for (int shelf = 0; shelf < 8; shelf++) {
            Check.due("shelf(" + shelf + ")", x.shelf(shelf), shelf);
        }
        Check.due("count(4)", x.count(4), 8);
        Check.due("count(3)", x.count(3), 2);
        Check.dueThrow(x, "shelf(8)", Check.INDEX, () -> x.shelf(8));
        Check.dueThrow(x, "shelf(-1)", Check.INDEX, () -> x.shelf(-1));
        x.pass(240);
        Check.due("count(4)", x.count(4), 8);
    }

    private static void ascendingTicketsOnLowestShelves() {
        PileTickets x = Scenes.onShelves(5);
        x.handOut(100, 0);
        x.handOut(102, 2);
        x.handOut(104, 4);
        // The tickets 105 to 108 get the places 0, 2, 4 and 5; the last one is first in the order.
        x.takeIn(0, 1, 3, 50, false);
        x.takeIn(0, 1, 3, 40, false);
        x.takeIn(0, 1, 3, 30, false);
        x.takeIn(0, 1, 3, 20, true);
        x.load(0);
        Check.due("pass(3)", x.pass(3), 4);
        int[] places = {0, 1, 2, 3, 4, 5, -1, -1};
        for (int shelf = 0; shelf < 8; shelf++) {
            Check.due("shelf(" + shelf + ")", x.shelf(shelf), places[shelf]);
        }
        PileTickets y = Scenes.waiting(3);
        y.room(0, 10);
        y.takeIn(1, 10, 2, 1, false);
        y.load(0);
        y.load(1);
        y.pass(2);
        y.handOut(103, 3);
        y.handOut(100, 0);
        // The ticket 104 is at the place 0 and 105 at 3; 101 and 102 stand on their shelves.
        y.takeIn(2, 1, 1, 9, false);
        y.takeIn(2, 1, 1, 8, false);
        y.load(1);
        y.pass(1);
        Check.due("shelf(0)", y.shelf(0), 0);
        Check.due("shelf(3)", y.shelf(3), 3);
        lesserTicketAtAHigherPlace();
    }

    private static void lesserTicketAtAHigherPlace() {
        PileTickets x = new PileTickets();
        x.takeIn(1, 1, 1, 9, false);
        x.takeIn(0, 1, 2, 90, false);
        x.takeIn(0, 1, 2, 80, false);
        x.load(0);
        x.pass(1);
        x.handOut(100, 0);
        x.takeIn(0, 1, 2, 70, false);
        x.load(0);
        x.pass(2);
        Check.due("pileOf(0, 0)", x.pileOf(0, 0), 103);
        int[] places = {1, 2, 0};
        for (int shelf = 0; shelf < 3; shelf++) {
            Check.due("shelf(" + shelf + ")", x.shelf(shelf), places[shelf]);
        }
    }

    private static void staysInTheMachine() {
        PileTickets x = Scenes.fullShelves();
        for (int time = 0; time < 2; time++) {
            Check.due("machineOf(0, 3)", x.machineOf(0, 3), 2);
            Check.due("pileOf(8, 6)", x.pileOf(8, 6), 1);
            Check.due("pileOf(9, 7)", x.pileOf(9, 7), 0);
            Check.due("load(0)", x.load(0), -1);
            Check.dueThrow(x, "room(0, 30)", Check.STATE, () -> x.room(0, 30));
            x.pass(240);
        }
        x.handOut(100, 0);
        Check.due("machineOf(0, 4) with a pile left", x.machineOf(0, 4), 10);
        x.handOut(101, 1);
        Check.due("machineOf(0, 4), idle at last", x.machineOf(0, 4), -1);
    }

    private static void triedAnewWithinHandOut() {
        PileTickets x = Scenes.fullShelves();
        x.pass(5);
        Check.due("handOut(105, 5)", x.handOut(105, 5), 28);
        // The lesser ticket is put there, although the rush is ahead in the order.
        Check.due("shelf(5)", x.shelf(5), 8);
        Check.due("pileOf(8, 9)", x.pileOf(8, 9), 15);
        Check.due("machineOf(0, 3)", x.machineOf(0, 3), 1);
        x.handOut(105, 5);
        Check.due("machineOf(0, 3) behind a handOut refused", x.machineOf(0, 3), 1);
        x.pass(20);
        x.handOut(100, 0);
        Check.due("shelf(0)", x.shelf(0), 9);
        Check.due("pileOf(9, 9)", x.pileOf(9, 9), 35);
        Check.due("count(4)", x.count(4), 8);
        x.handOut(101, 1);
        Check.due("shelf(1) with none left", x.shelf(1), -1);
        runningMachinesAreLeftAlone();
    }

    private static void runningMachinesAreLeftAlone() {
        PileTickets x = Scenes.onShelves(8);
        x.takeIn(1, 1, 2, 50, false);
        x.load(0);
        x.pass(1);
        x.handOut(100, 0);
        Check.due("shelf(0), free for a machine that still runs", x.shelf(0), -1);
        Check.due("machineOf(0, 3)", x.machineOf(0, 3), 1);
        x.pass(1);
        Check.due("shelf(0)", x.shelf(0), 8);
    }

    private static void machineZeroIsTriedFirst() {
        PileTickets x = Scenes.onShelves(8);
        x.takeIn(1, 1, 1, 50, false);
        x.load(1);
        x.pass(1);
        x.takeIn(2, 1, 5, 50, false);
        x.load(0);
        x.pass(5);
        // Machine 1 has ended earlier, with the lesser ticket, but machine 0 is tried first.
        Check.due("machineOf(1, 4)", x.machineOf(1, 4), 2);
        Check.due("machineOf(0, 4)", x.machineOf(0, 4), 7);
        x.handOut(103, 3);
        Check.due("shelf(3)", x.shelf(3), 9);
        Check.due("machineOf(0, 3)", x.machineOf(0, 3), 0);
        Check.due("machineOf(1, 3)", x.machineOf(1, 3), 1);
        x.handOut(104, 4);
        Check.due("shelf(4)", x.shelf(4), 8);
        Check.due("machineOf(1, 3)", x.machineOf(1, 3), 0);
    }

    private static void lateIsBehindThePromise() {
        for (int within = 4; within <= 6; within++) {
            PileTickets x = Scenes.washed(8, within, false);
            x.pass(240);
            Check.due("count(7) of a promise at " + within, x.count(7), within < 5 ? 1 : 0);
            Check.due("pileOf(0, 10) of a promise at " + within, x.pileOf(0, 10), within < 5 ? 18 : 24);
        }
        PileTickets full = Scenes.fullShelves();
        full.pass(10);
        full.handOut(100, 0);
        Check.due("count(7) of a shelf that is free at the promise", full.count(7), 0);
        full.undo();
        full.pass(1);
        full.handOut(100, 0);
        Check.due("count(7) of a shelf that is free a minute later", full.count(7), 1);
    }

    // ---- fees, handing out

    private static void dueFees(boolean isRush, boolean isLate) {
        for (int weight = 1; weight <= 20; weight++) {
            for (int price = 1; price <= 9; price++) {
                int fee = price * weight;
                for (int more = 2; isRush && more <= price * weight; more += 2) {
                    fee++;
                }
                int sum = fee;
                for (int less = 4; isLate && less <= sum; less += 4) {
                    fee--;
                }
                dueFee(weight, isRush, isLate, price, fee);
            }
        }
    }

    private static void feesOfLatePiles() {
        dueFees(false, true);
        dueFees(true, true);
        dueFee(20, true, true, 9, 203);
        dueFee(3, true, true, 3, 10);
    }

    private static void handedOutForTicketAndShelf() {
        PileTickets x = Scenes.onShelves(2);
        Check.due("handOut(101, 1)", x.handOut(101, 1), 13);
        // Both reasons would be so: the shelf is free, and no pile has the ticket.
        Check.due("handOut(999, 1)", x.handOut(999, 1), 1);
        Check.due("handOut(100, 0)", x.handOut(100, 0), 13);
        Check.due("count(6)", x.count(6), 2);
    }

    private static void reasonOfAFreeShelf() {
        PileTickets x = Scenes.onShelves(2);
        for (int shelf = 2; shelf < 8; shelf++) {
            Check.due("handOut(100, " + shelf + ")", x.handOut(100, shelf), 1);
        }
        x.takeIn(0, 1, 1, 1, false);
        Check.due("handOut(102, 2) of a pile that waits", x.handOut(102, 2), 1);
        x.load(0);
        Check.due("handOut(102, 2) of a pile in a machine", x.handOut(102, 2), 1);
        x.handOut(100, 0);
        Check.due("handOut(100, 0) again", x.handOut(100, 0), 1);
        Check.due("count(6)", x.count(6), 1);
    }

    private static void reasonOfAnotherTicket() {
        PileTickets x = Scenes.onShelves(3);
        Check.due("handOut(100, 1)", x.handOut(100, 1), 2);
        Check.due("handOut(102, 1)", x.handOut(102, 1), 2);
        Check.due("handOut(1, 1), the place of the pile", x.handOut(1, 1), 2);
        Check.due("handOut(-1, 1)", x.handOut(-1, 1), 2);
        Check.due("count(6)", x.count(6), 0);
        Check.due("count(8)", x.count(8), 0);
        Check.due("handOut(101, 1)", x.handOut(101, 1), 13);
    }

    // ---- settings

    private static void priceOfAWeight() {
        PileTickets x = new PileTickets();
        x.takeIn(0, 1, 1, 1, false);
        Check.due("setting(0)", x.setting(0), 3);
        Check.due("pileOf(0, 10)", x.pileOf(0, 10), 3);
        for (int price : new int[] {1, 9}) {
            x.set(0, price);
            Check.due("pileOf(0, 10)", x.pileOf(0, 10), price);
        }
        Check.dueThrow(x, "set(0, 0)", Check.ARGUMENT, () -> x.set(0, 0));
        Check.dueThrow(x, "set(0, 10)", Check.ARGUMENT, () -> x.set(0, 10));
    }

    private static void rushesFirstOrNot() {
        PileTickets x = new PileTickets();
        Check.due("setting(1)", x.setting(1), 1);
        x.takeIn(0, 20, 1, 10, false);
        x.takeIn(1, 20, 1, 12, true);
        x.takeIn(2, 20, 1, 11, true);
        dueOrder(x, 2, 1, 0);
        Check.due("ifLoaded(0)", x.ifLoaded(0), 4);
        x.set(1, 0);
        dueOrder(x, 0, 2, 1);
        Check.due("ifLoaded(0)", x.ifLoaded(0), 1);
        Check.dueThrow(x, "set(1, 2)", Check.ARGUMENT, () -> x.set(1, 2));
        Check.dueThrow(x, "set(1, -1)", Check.ARGUMENT, () -> x.set(1, -1));
    }

    // ---- texts

    private static void bufferOfSixty() {
        PileTickets x = Scenes.typed("a".repeat(59));
        Check.due("append of the 60th", x.append('a'), 60);
        Check.dueThrow(x, "append of the 61st", Check.STATE, () -> x.append('a'));
        Check.due("clearBuffer()", x.clearBuffer(), 60);
    }

    private static void dueText(String text, int error, boolean isWhole) {
        PileTickets x = Scenes.typed(text);
        Check.due("firstError() of " + text, x.firstError(), error);
        if (isWhole) {
            Check.due("whether read() of " + text + " takes piles in", x.read() > 0 ? 1 : 0, 1);
        } else {
            Check.dueThrow(x, "read() of " + text, Check.ARGUMENT, x::read);
        }
    }

    private static void pilesWithSeparators() {
        dueText("", 0, false);
        dueText("a1/1@1", 6, true);
        dueText("a1/1@1;", 7, false);
        dueText("a1/1@1;b2/2@2", 13, true);
        dueText("a1/1@1!;b2/2@2!", 15, true);
        dueText(";a1/1@1", 0, false);
        dueText("a1/1@1;;b2/2@2", 7, false);
        dueText("a1/1@1b2/2@2", 6, false);
        dueText("a1/1@1!b2/2@2", 7, false);
        dueText("a1/1@1,b2/2@2", 6, false);
        dueText("a1/1@1" + ";a1/1@1".repeat(7), 55, true);
        dueText("a1/1@1" + ";a1/1@1".repeat(7) + ";", 56, false);
    }

    private static void partsOfAPile() {
        for (char letter = '!'; letter <= '~'; letter++) {
            boolean isColour = letter >= 'a' && letter <= 'd';
            dueText(letter + "1/1@1", isColour ? 6 : 0, isColour);
        }
        for (int weight = 0; weight <= 30; weight++) {
            boolean isRight = weight >= 1 && weight <= 20;
            dueText("a" + weight + "/1@1", isRight ? weight < 10 ? 6 : 7 : weight == 0 ? 1 : 2, isRight);
        }
        for (int time = 0; time <= 70; time++) {
            boolean isRight = time >= 1 && time <= 60;
            dueText("a1/" + time + "@1", isRight ? time < 10 ? 6 : 7 : time == 0 ? 3 : 4, isRight);
        }
        for (int within : new int[] {1, 9, 10, 99, 100, 999}) {
            String digits = String.valueOf(within);
            dueText("a1/1@" + digits, 5 + digits.length(), true);
            dueText("a1/1@" + digits + "!", 6 + digits.length(), true);
            dueText("a1/1@" + digits + "!!", 6 + digits.length(), false);
        }
        dueText("a1/1@0", 5, false);
        dueText("a1/1@1000", 8, false);
        dueText("a1/1@", 5, false);
        dueText("a1/1", 4, false);
        dueText("a1", 2, false);
        dueText("a", 1, false);
        partsAreReadRight();
    }

    private static void partsAreReadRight() {
        PileTickets x = Scenes.typed("a1/1@1;b20/60@999!;c10/9@10;d9/10@100!");
        Check.due("read()", x.read(), 4);
        int[][] due = {{0, 1, 1, 1, 0}, {1, 20, 60, 999, 1}, {2, 10, 9, 10, 0}, {3, 9, 10, 100, 1}};
        for (int place = 0; place < 4; place++) {
            for (int what = 1; what <= 5; what++) {
                Check.due("pileOf(" + place + ", " + what + ")", x.pileOf(place, what), due[place][what - 1]);
            }
        }
    }

    private static void noLeadingZeros() {
        dueText("a01/1@1", 1, false);
        dueText("a1/01@1", 3, false);
        dueText("a1/1@01", 5, false);
        dueText("a00/1@1", 1, false);
        dueText("a1/00@1", 3, false);
        dueText("a1/1@001", 5, false);
        dueText("a10/10@100", 10, true);
        dueText("a20/60@990", 10, true);
    }

    private static void errorIfNothingBeginsSo() {
        // The first error counts, whatever comes behind it.
        dueText("a1/1@1;e~", 7, false);
        dueText("~" + "a1/1@1", 0, false);
        // A number that can only grow too great, or not at all, is an error at once.
        dueText("a2", 2, false);
        dueText("a21", 2, false);
        dueText("a20", 3, false);
        dueText("a200", 3, false);
        dueText("a3", 2, false);
        dueText("a30", 2, false);
        dueText("a1/6", 4, false);
        dueText("a1/61", 4, false);
        dueText("a1/1@999", 8, true);
        dueText("a1/1@9990", 8, false);
        // Texts that go on beyond the buffer are no error in it.
        dueText("a1/1@1;".repeat(8) + "a1/1", 60, false);
        dueText("a1/1@1;".repeat(8) + "a20/", 60, false);
        dueText("a1/1@1;".repeat(8) + "a21/", 58, false);
    }

    // ---- snapshots, undo

    /** Leaves nothing of a busy room as it was; the clock is 53 then, and 2 of 3 piles were put on shelves late. */
    private static void changeAll(PileTickets x) {
        x.set(0, 9);
        x.set(1, 0);
        x.handOut(100, 0);
        x.handOut(100, 0);
        x.rush(2);
        x.room(0, 10);
        x.load(0);
        x.takeIn(3, 20, 60, 999, true);
        x.pass(44);
    }

    private static void snapshotIsAllBut() {
        PileTickets x = Scenes.busy();
        x.keep(1);
        String kept = Scenes.all(x);
        changeAll(x);
        Scenes.type(x, "1@");
        x.keep(0);
        x.undo();
        x.undo();
        Check.due("goBack(1)", x.goBack(1), 9);
        Check.dueText("the room", Scenes.all(x), kept);
        Check.due("count(9)", x.count(9), 0);
        Check.due("count(10), as the saved states are no part of it", x.count(10), 5);
        Check.due("clearBuffer(), as the buffer is no part of it", x.clearBuffer(), 5);
        Check.due("goBack(0), as the slots are no part of it", x.goBack(0), 53);
    }

    private static void dueSaving(String call, boolean isSaving, ToIntFunction<PileTickets> run) {
        PileTickets x = Scenes.withOneSaved(Scenes.busy());
        run.applyAsInt(x);
        Check.due("count(10) behind " + call, x.count(10), isSaving ? 2 : 1);
    }

    private static void whichMethodsSave() {
        dueSaving("takeIn", true, x -> x.takeIn(0, 1, 1, 1, false));
        dueSaving("handOut", true, x -> x.handOut(100, 0));
        dueSaving("handOut refused", true, x -> x.handOut(100, 1));
        dueSaving("rush", true, x -> x.rush(2));
        dueSaving("load", true, x -> x.load(0));
        dueSaving("load refused", true, x -> x.load(1));
        dueSaving("room", true, x -> x.room(0, 10));
        dueSaving("room that changes nothing", true, x -> x.room(0, 30));
        dueSaving("pass", true, x -> x.pass(1));
        dueSaving("set", true, x -> x.set(0, 1));
        dueSaving("set that changes nothing", true, x -> x.set(0, 3));
        dueSaving("goBack", true, x -> x.goBack(0));
        dueSaving("goBack that changes nothing", true, x -> x.goBack(1));
        dueSaving("append", false, x -> x.append('1'));
        dueSaving("clearBuffer", false, PileTickets::clearBuffer);
        dueSaving("firstError", false, PileTickets::firstError);
        dueSaving("keep", false, x -> x.keep(0));
        dueSaving("pileOf", false, x -> x.pileOf(0, 0));
        dueSaving("machineOf", false, x -> x.machineOf(0, 0));
        dueSaving("shelf", false, x -> x.shelf(0));
        dueSaving("count", false, x -> x.count(0));
        dueSaving("setting", false, x -> x.setting(0));
        dueSaving("waiting", false, x -> x.waiting(0));
        dueSaving("ifLoaded", false, x -> x.ifLoaded(0));
        dueSaving("endsIn", false, PileTickets::endsIn);
        dueSaving("fewestLate(0)", false, x -> x.fewestLate(0));
        dueSaving("fewestLate(1)", false, x -> x.fewestLate(1));
        dueSaving("lateShare", false, x -> x.lateShare() > 0 ? 1 : 0);
        dueSaving("digest", false, x -> (int) x.digest());
        refusedTakeInAndReadSave();
    }

    private static void refusedTakeInAndReadSave() {
        PileTickets x = Scenes.withOneSaved(Scenes.waiting(10));
        x.takeIn(0, 1, 1, 1, false);
        Check.due("count(10) behind takeIn refused", x.count(10), 2);
        Scenes.type(x, "a1/1@1");
        x.read();
        Check.due("count(10) behind read refused", x.count(10), 3);
        PileTickets y = Scenes.typed("a1/1@1");
        y.read();
        Check.due("count(10) behind read", y.count(10), 1);
    }

    private static void savedStateIsAllBut() {
        PileTickets x = Scenes.busy();
        x.keep(1);
        changeAll(x);
        String changed = Scenes.all(x);
        x.goBack(1);
        x.keep(0);
        Scenes.type(x, "1@");
        Check.due("undo()", x.undo(), 5);
        Check.dueText("the room", Scenes.all(x), changed);
        Check.due("count(9)", x.count(9), 1);
        Check.dueShare("lateShare()", x.lateShare(), 2.0 / 3);
        Check.due("clearBuffer(), as the buffer is no part of it", x.clearBuffer(), 5);
        Check.due("goBack(0), as the slots are no part of it", x.goBack(0), 9);
        Check.due("count(10), as the saved states are no part of it", x.count(10), 6);
    }

    private static void sixAreSaved() {
        PileTickets x = new PileTickets();
        for (int time = 1; time <= 20; time++) {
            x.pass(1);
            Check.due("count(10)", x.count(10), Math.min(6, time));
        }
        for (int left = 5; left >= 0; left--) {
            Check.due("undo()", x.undo(), left);
            Check.due("count(0)", x.count(0), 14 + left);
        }
        Check.dueThrow(x, "undo()", Check.STATE, x::undo);
        // Some undone and others saved again: still the latest six.
        for (int time = 0; time < 9; time++) {
            x.pass(1);
        }
        x.undo();
        x.undo();
        for (int time = 0; time < 4; time++) {
            x.pass(10);
        }
        for (int left = 5; left >= 2; left--) {
            x.undo();
            Check.due("count(0)", x.count(0), 21 + 10 * (left - 2));
        }
        Check.due("undo()", x.undo(), 1);
        Check.due("count(0)", x.count(0), 20);
        Check.due("undo()", x.undo(), 0);
        Check.due("count(0)", x.count(0), 19);
    }

    // ---- exceptions

    /** In a busy room with six saved states the call throws, and the room, each saved state, slot and the buffer stay. */
    private static void dueUnchanged(String call, Class<?> thrown, ToIntFunction<PileTickets> run) {
        PileTickets x = Scenes.busy();
        String before = Scenes.all(x);
        Check.dueThrow(x, call, thrown, () -> run.applyAsInt(x));
        Check.dueText("the room behind " + call, Scenes.all(x), before);
        for (int left = 5; left >= 0; left--) {
            Check.due("undo() behind " + call, x.undo(), left);
            Check.due("count(0) behind " + call, x.count(0), 3 + left);
        }
        Check.due("goBack(0) behind " + call, x.goBack(0), 3);
        Check.due("firstError() behind " + call, x.firstError(), 3);
        Check.due("clearBuffer() behind " + call, x.clearBuffer(), 3);
    }

    private static void throwingChangesNothing() {
        dueUnchanged("takeIn(4, 1, 1, 1)", Check.ARGUMENT, x -> x.takeIn(4, 1, 1, 1, false));
        dueUnchanged("takeIn(3, 20, 60, 1000)", Check.ARGUMENT, x -> x.takeIn(3, 20, 60, 1000, true));
        dueUnchanged("handOut(100, 8)", Check.INDEX, x -> x.handOut(100, 8));
        dueUnchanged("rush(3)", Check.INDEX, x -> x.rush(3));
        dueUnchanged("rush(1)", Check.STATE, x -> x.rush(1));
        dueUnchanged("load(2)", Check.INDEX, x -> x.load(2));
        dueUnchanged("room(2, 30)", Check.INDEX, x -> x.room(2, 30));
        dueUnchanged("room(0, 61)", Check.ARGUMENT, x -> x.room(0, 61));
        dueUnchanged("room(1, 30)", Check.STATE, x -> x.room(1, 30));
        dueUnchanged("pass(241)", Check.ARGUMENT, x -> x.pass(241));
        dueUnchanged("set(2, 1)", Check.INDEX, x -> x.set(2, 1));
        dueUnchanged("set(0, 10)", Check.ARGUMENT, x -> x.set(0, 10));
        dueUnchanged("set(1, 2)", Check.ARGUMENT, x -> x.set(1, 2));
        dueUnchanged("append(127)", Check.ARGUMENT, x -> x.append(127));
        dueUnchanged("read()", Check.ARGUMENT, PileTickets::read);
        dueUnchanged("keep(2)", Check.ARGUMENT, x -> x.keep(2));
        dueUnchanged("goBack(2)", Check.ARGUMENT, x -> x.goBack(2));
        dueUnchanged("goBack(1)", Check.STATE, x -> x.goBack(1));
        dueUnchanged("pileOf(10, 0)", Check.INDEX, x -> x.pileOf(10, 0));
        dueUnchanged("pileOf(0, 11)", Check.ARGUMENT, x -> x.pileOf(0, 11));
        dueUnchanged("machineOf(2, 0)", Check.INDEX, x -> x.machineOf(2, 0));
        dueUnchanged("machineOf(0, 6)", Check.ARGUMENT, x -> x.machineOf(0, 6));
        dueUnchanged("shelf(8)", Check.INDEX, x -> x.shelf(8));
        dueUnchanged("count(11)", Check.ARGUMENT, x -> x.count(11));
        dueUnchanged("setting(2)", Check.INDEX, x -> x.setting(2));
        dueUnchanged("waiting(-1)", Check.ARGUMENT, x -> x.waiting(-1));
        dueUnchanged("ifLoaded(2)", Check.INDEX, x -> x.ifLoaded(2));
        dueUnchanged("fewestLate(2)", Check.ARGUMENT, x -> x.fewestLate(2));
        throwingAtALimitChangesNothing();
    }

    private static void throwingAtALimitChangesNothing() {
        PileTickets last = new PileTickets();
        Scenes.passTo(last, 99993);
        for (int minute = 0; minute < 6; minute++) {
            last.pass(1);
        }
        Check.dueThrow(last, "pass(1) at the last clock", Check.STATE, () -> last.pass(1));
        for (int left = 5; left >= 0; left--) {
            last.undo();
            Check.due("count(0)", last.count(0), 99993 + left);
        }
        Check.dueThrow(last, "undo() without a saved state", Check.STATE, last::undo);
        Check.due("count(0)", last.count(0), 99993);
        PileTickets typed = Scenes.typed("a1/1@1;".repeat(8) + "b2/2");
        Check.dueThrow(typed, "append to a full buffer", Check.STATE, () -> typed.append('@'));
        Check.due("firstError()", typed.firstError(), 60);
        Check.due("clearBuffer()", typed.clearBuffer(), 60);
    }

    private static void firstNamedIsThrown() {
        PileTickets x = Scenes.busy();
        Check.dueThrow(x, "room(2, 9)", Check.INDEX, () -> x.room(2, 9));
        Check.dueThrow(x, "room(-1, 61)", Check.INDEX, () -> x.room(-1, 61));
        Check.dueThrow(x, "room(1, 9) while it runs", Check.ARGUMENT, () -> x.room(1, 9));
        Check.dueThrow(x, "room(1, 61) while it runs", Check.ARGUMENT, () -> x.room(1, 61));
        Check.dueThrow(x, "set(2, 10)", Check.INDEX, () -> x.set(2, 10));
        Check.dueThrow(x, "set(-1, -1)", Check.INDEX, () -> x.set(-1, -1));
        Check.dueThrow(x, "pileOf(10, 11)", Check.INDEX, () -> x.pileOf(10, 11));
        Check.dueThrow(x, "pileOf(-1, -1)", Check.INDEX, () -> x.pileOf(-1, -1));
        Check.dueThrow(x, "machineOf(2, 6)", Check.INDEX, () -> x.machineOf(2, 6));
        Check.dueThrow(x, "machineOf(-1, -1)", Check.INDEX, () -> x.machineOf(-1, -1));
        Check.dueThrow(x, "goBack(2) beside an empty slot", Check.ARGUMENT, () -> x.goBack(2));
        PileTickets last = new PileTickets();
        Scenes.passTo(last, 99999);
        Check.dueThrow(last, "pass(241) at the last clock", Check.ARGUMENT, () -> last.pass(241));
        Check.dueThrow(last, "pass(0) at the last clock", Check.ARGUMENT, () -> last.pass(0));
        PileTickets typed = Scenes.typed("a".repeat(60));
        Check.dueThrow(typed, "append(32) to a full buffer", Check.ARGUMENT, () -> typed.append(32));
        Check.dueThrow(typed, "append(127) to a full buffer", Check.ARGUMENT, () -> typed.append(127));
    }

    // ---- looks

    private static void looksChangeNothing() {
        for (PileTickets x : new PileTickets[] {new PileTickets(), Scenes.busy(), Scenes.fullShelves()}) {
            long before = x.digest();
            String all = Scenes.all(x);
            Check.dueText("the room looked at again", Scenes.all(x), all);
            Check.due("digest() behind all looks", x.digest(), before);
        }
    }

    private static void forecastsChangeNothing() {
        for (PileTickets x : new PileTickets[] {new PileTickets(), Scenes.busy(), Scenes.waiting(10)}) {
            String before = Scenes.all(x);
            for (int time = 0; time < 2; time++) {
                x.waiting(time);
                x.ifLoaded(time);
                x.endsIn();
                x.fewestLate(time);
                x.lateShare();
                x.digest();
            }
            Check.dueText("the room behind all forecasts", Scenes.all(x), before);
            Check.due("firstError()", x.firstError(), x.clearBuffer());
        }
    }
}
