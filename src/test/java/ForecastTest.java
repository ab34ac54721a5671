import java.util.Arrays;
import java.util.Comparator;

/** Promises 21 to 26: waiting, ifLoaded, endsIn, fewestLate, lateShare, digest. */
public final class ForecastTest {
    public static void main(String[] args) {
        waiting();
        ifLoaded();
        endsIn();
        fewestLate();
        lateShare();
        digest();
        Sentences.end(21, 22, 23, 24, 25, 26);
    }

    private static void waiting() {
        Sentences.test(21, "Tells which pile waits at a rank of the order.", ForecastTest::waitingFollowsTheOrder);
        Sentences.test(21, "`rank`: from 0", ForecastTest::waitingTakesEachRank);
        Sentences.test(21, "Returns its place in the house; NONE if not so many wait.",
                ForecastTest::waitingBehindTheLast);
        Sentences.test(21, "Throws `IllegalArgumentException` if rank is below 0", ForecastTest::waitingThrows);
    }

    private static void ifLoaded() {
        Sentences.test(22, "Tells what loading a machine would put in, if it was idle.",
                ForecastTest::ifLoadedOfMachinesThatRun);
        Sentences.test(22, "`machine`: 0 or 1", ForecastTest::ifLoadedTakesEachMachine);
        Sentences.test(22, "Returns the places of the piles, as a mask.", ForecastTest::ifLoadedTellsPlaces);
        Sentences.test(22, "Throws `IndexOutOfBoundsException` if there is no such machine",
                ForecastTest::ifLoadedThrows);
    }

    private static void endsIn() {
        Sentences.test(23, "Tells when the next machine ends.", ForecastTest::endsInFollowsTheMachines);
        Sentences.test(23, "Returns in how many minutes the earliest end of a machine that runs is,",
                ForecastTest::endsInOfTheEarliest);
        Sentences.test(23, "0 if one has ended that still has piles;", ForecastTest::endsInOfAnEndedMachine);
        Sentences.test(23, "NONE if both are idle.", ForecastTest::endsInOfIdleMachines);
    }

    private static void fewestLate() {
        Sentences.test(24, "Tells how few of the waiting piles would be late, if they were washed one by one from now on, "
                + "each alone, for its washing time, in the best order (whatever its weight, and whether it is a rush).",
                ForecastTest::fewestLateOfKnownLines);
        Sentences.test(24, "`what`: 0: told by their promises, dropping the longest one whenever one is late;",
                () -> fewestLateAgrees(0));
        Sentences.test(24, "1: told by all sets of those in time", () -> fewestLateAgrees(1));
        Sentences.test(24, "Returns the fewest (the same for both).", ForecastTest::fewestLateOfNoneAndOfTen);
        Sentences.test(24, "Throws `IllegalArgumentException` if what is not 0 or 1", ForecastTest::fewestLateThrows);
    }

    private static void lateShare() {
        Sentences.test(25, "Returns how many piles are late.", ForecastTest::lateShareFollowsThePiles);
        Sentences.test(25, "Returns the late piles put on shelves so far as a double, divided by all that were put on shelves so far;",
                ForecastTest::lateShareDivides);
        Sentences.test(25, "0.0 without any.", ForecastTest::lateShareWithoutAny);
    }

    private static void digest() {
        Sentences.test(26, "Computes a hash of the whole state.", ForecastTest::digestOfTheSameState);
        Sentences.test(26, "The hash starts at 3557.", ForecastTest::digestOfANewObject);
        Sentences.test(26, "For each value v of the following list, in order, the hash becomes 31 * hash + v, "
                + "in long arithmetic with overflow.", ForecastTest::digestAddsByOrder);
        Sentences.test(26, "The values are: count(0) to count(10);", () -> Digests.due("of counts", lived(), 0, ""));
        Sentences.test(26, "the settings 0 and 1;", ForecastTest::digestOfSettings);
        Sentences.test(26, "for each place its properties 0 to 10;", ForecastTest::digestOfPlaces);
        Sentences.test(26, "for each machine its properties 0 to 5, and ifLoaded;", ForecastTest::digestOfMachines);
        Sentences.test(26, "for each shelf its pile;", ForecastTest::digestOfShelves);
        Sentences.test(26, "waiting of the ranks 0 to 9;", ForecastTest::digestOfRanks);
        Sentences.test(26, "endsIn;", ForecastTest::digestOfEnds);
        Sentences.test(26, "fewestLate with 0, then with 1;", ForecastTest::digestOfLateOnes);
        Sentences.test(26, "the bits of lateShare (as Double.doubleToLongBits);", ForecastTest::digestOfShares);
        Sentences.test(26, "for each slot 1 if it has a snapshot, otherwise 0;", ForecastTest::digestOfSlots);
        Sentences.test(26, "the length of the buffer and each of its character codes.",
                ForecastTest::digestOfTheBuffer);
        Sentences.test(26, "Returns the hash.", ForecastTest::digestOfABusyRoom);
    }

    // ---- waiting

    private static void dueWaiting(PileTickets x, int... due) {
        for (int rank = 0; rank <= 10; rank++) {
            int place = rank < due.length ? due[rank] : -1;
            Check.due("waiting(" + rank + ")", x.waiting(rank), place);
        }
    }

    private static void waitingFollowsTheOrder() {
        PileTickets x = new PileTickets();
        x.takeIn(0, 1, 1, 30, false);
        x.takeIn(1, 1, 1, 20, false);
        x.takeIn(2, 1, 1, 40, true);
        x.takeIn(3, 1, 1, 30, false);
        x.takeIn(0, 1, 1, 35, true);
        dueWaiting(x, 4, 2, 1, 0, 3);
        x.set(1, 0);
        dueWaiting(x, 1, 0, 3, 4, 2);
        x.rush(1);
        dueWaiting(x, 1, 0, 3, 4, 2);
        x.set(1, 1);
        dueWaiting(x, 1, 4, 2, 0, 3);
        x.load(0);
        dueWaiting(x, 4, 2, 0, 3);
        x.pass(1);
        x.handOut(101, 0);
        // The lowest place gets the greatest ticket, which is behind at the same promise.
        x.takeIn(1, 1, 1, 29, false);
        Check.due("pileOf(1, 0)", x.pileOf(1, 0), 105);
        dueWaiting(x, 4, 2, 0, 3, 1);
    }

    private static void waitingTakesEachRank() {
        PileTickets x = new PileTickets();
        for (int place = 0; place < 10; place++) {
            x.takeIn(0, 1, 1, 20 - place, false);
        }
        dueWaiting(x, 9, 8, 7, 6, 5, 4, 3, 2, 1, 0);
    }

    private static void waitingBehindTheLast() {
        Check.due("waiting(0) of an empty house", new PileTickets().waiting(0), -1);
        PileTickets x = Scenes.waiting(3);
        dueWaiting(x, 0, 1, 2);
        PileTickets full = Scenes.waiting(10);
        for (int rank : new int[] {10, 11, 100, 65536, Integer.MAX_VALUE}) {
            Check.due("waiting(" + rank + ")", x.waiting(rank), -1);
            Check.due("waiting(" + rank + ") of a full house", full.waiting(rank), -1);
        }
        PileTickets shelved = Scenes.fullShelves();
        Check.due("waiting(0) with piles in machines and on shelves alone", shelved.waiting(0), -1);
    }

    private static void waitingThrows() {
        for (PileTickets x : new PileTickets[] {new PileTickets(), Scenes.waiting(10)}) {
            for (int rank : new int[] {-1, -2, -10, Integer.MIN_VALUE, Integer.MIN_VALUE + 1}) {
                Check.dueThrow(x, "waiting(" + rank + ")", Check.ARGUMENT, () -> x.waiting(rank));
            }
        }
    }

    // ---- ifLoaded

    private static void ifLoadedOfMachinesThatRun() {
        PileTickets x = new PileTickets();
        x.takeIn(0, 20, 5, 50, false);
        x.takeIn(1, 20, 5, 50, false);
        x.takeIn(1, 10, 5, 50, false);
        x.takeIn(0, 11, 5, 50, false);
        x.load(0);
        // As if machine 0 was empty: neither the room nor the colour of what is in it counts.
        Check.due("ifLoaded(0) while it runs", x.ifLoaded(0), 1 << 1 | 1 << 2);
        Check.due("ifLoaded(1)", x.ifLoaded(1), 1 << 1 | 1 << 2);
        Check.due("count(2), as nothing is changed", x.count(2), 3);
        PileTickets full = Scenes.fullShelves();
        Check.due("ifLoaded(0) without a waiting pile", full.ifLoaded(0), 0);
        full.handOut(100, 0);
        full.takeIn(0, 20, 1, 1, false);
        Check.due("ifLoaded(0), ended with a pile left in it", full.ifLoaded(0), 1);
        Check.due("load(0)", full.load(0), -1);
        Check.due("ifLoaded(1)", full.ifLoaded(1), 1);
        Check.due("load(1)", full.load(1), 20);
    }

    private static void ifLoadedTakesEachMachine() {
        PileTickets x = new PileTickets();
        x.takeIn(0, 20, 5, 50, false);
        x.takeIn(0, 20, 5, 50, false);
        Check.due("ifLoaded(0) of the room 30", x.ifLoaded(0), 1);
        Check.due("ifLoaded(1) of the room 40", x.ifLoaded(1), 3);
        for (int machine : Check.outside(0, 1)) {
            Check.dueThrow(x, "ifLoaded(" + machine + ")", Check.INDEX, () -> x.ifLoaded(machine));
        }
    }

    private static void ifLoadedTellsPlaces() {
        PileTickets x = new PileTickets();
        Check.due("ifLoaded(0) of an empty house", x.ifLoaded(0), 0);
        x.room(0, 10);
        x.takeIn(2, 20, 5, 5, false);
        Check.due("ifLoaded(0) of a pile too heavy", x.ifLoaded(0), 0);
        Check.due("ifLoaded(1)", x.ifLoaded(1), 1);
        x.takeIn(1, 6, 5, 6, false);
        x.takeIn(2, 9, 5, 7, false);
        x.takeIn(1, 4, 5, 8, false);
        x.takeIn(1, 1, 5, 9, true);
        Check.due("ifLoaded(0)", x.ifLoaded(0), 1 << 4 | 1 << 1);
        Check.due("ifLoaded(1)", x.ifLoaded(1), 1 << 4 | 1 << 3 | 1 << 1);
        x.set(1, 0);
        Check.due("ifLoaded(0)", x.ifLoaded(0), 1 << 3 | 1 << 1);
        Check.due("ifLoaded(1)", x.ifLoaded(1), 1 << 2 | 1);
        PileTickets full = Scenes.waiting(10);
        Check.due("ifLoaded(0) of ten piles", full.ifLoaded(0), 1023);
        full.room(0, 10);
        full.room(1, 10);
        Check.due("ifLoaded(0) of ten piles that just fit", full.ifLoaded(0), 1023);
        full.undo();
        full.load(1);
        Check.due("ifLoaded(0) without a waiting pile", full.ifLoaded(0), 0);
    }

    private static void ifLoadedThrows() {
        for (PileTickets x : new PileTickets[] {new PileTickets(), Scenes.busy()}) {
            for (int machine : Check.outside(0, 1)) {
                Check.dueThrow(x, "ifLoaded(" + machine + ")", Check.INDEX, () -> x.ifLoaded(machine));
            }
        }
    }

    // ---- endsIn

    private static void endsInFollowsTheMachines() {
        PileTickets x = new PileTickets();
        x.takeIn(0, 1, 20, 50, false);
        x.takeIn(1, 1, 12, 50, false);
        x.load(0);
        Check.due("endsIn()", x.endsIn(), 20);
        x.load(1);
        Check.due("endsIn()", x.endsIn(), 12);
        x.pass(11);
        Check.due("endsIn()", x.endsIn(), 1);
        x.pass(1);
        Check.due("endsIn()", x.endsIn(), 8);
        x.pass(8);
        Check.due("endsIn()", x.endsIn(), -1);
    }

    private static void endsInOfTheEarliest() {
        for (int time = 1; time <= 60; time += 59) {
            for (int machine = 0; machine < 2; machine++) {
                PileTickets x = new PileTickets();
                x.pass(100);
                x.takeIn(0, 1, time, 50, false);
                x.load(machine);
                Check.due("endsIn()", x.endsIn(), time);
                x.takeIn(0, 1, 30, 50, false);
                x.load(1 - machine);
                Check.due("endsIn() of two machines", x.endsIn(), Math.min(30, time));
            }
        }
        PileTickets last = Scenes.waiting(1);
        Scenes.passTo(last, 99999);
        last.load(0);
        Check.due("endsIn() at the last clock", last.endsIn(), 1);
    }

    private static void endsInOfAnEndedMachine() {
        PileTickets x = Scenes.fullShelves();
        Check.due("endsIn() at the end", x.endsIn(), 0);
        x.pass(9);
        Check.due("endsIn() past the end", x.endsIn(), 0);
        x.handOut(100, 0);
        x.takeIn(0, 1, 9, 9, false);
        x.load(1);
        Check.due("endsIn() with one that runs beside it", x.endsIn(), 0);
        x.handOut(101, 1);
        Check.due("endsIn() as its last pile is out", x.endsIn(), 9);
    }

    private static void endsInOfIdleMachines() {
        PileTickets x = new PileTickets();
        Check.due("endsIn() of a new object", x.endsIn(), -1);
        Scenes.takeIn(x, 1);
        Check.due("endsIn() while a pile waits", x.endsIn(), -1);
        x.load(1);
        Check.due("endsIn() while one runs", x.endsIn(), 1);
        x.pass(1);
        Check.due("endsIn() of machines idle again", x.endsIn(), -1);
        PileTickets full = Scenes.fullShelves();
        full.handOut(100, 0);
        full.handOut(101, 1);
        Check.due("endsIn() of machines idle at last", full.endsIn(), -1);
    }

    // ---- fewestLate

    private static void dueLate(PileTickets x, int due) {
        Check.due("fewestLate(0)", x.fewestLate(0), due);
        Check.due("fewestLate(1)", x.fewestLate(1), due);
    }

    private static void fewestLateOfKnownLines() {
        PileTickets x = new PileTickets();
        x.takeIn(0, 1, 10, 10, false);
        dueLate(x, 0);
        x.pass(1);
        dueLate(x, 1);
        x.undo();
        // Two short ones are in time if the longest is dropped, although the first is in time alone.
        x.takeIn(0, 20, 5, 11, true);
        x.takeIn(0, 20, 6, 11, false);
        dueLate(x, 1);
        x.takeIn(0, 1, 60, 71, false);
        dueLate(x, 1);
        x.takeIn(0, 1, 60, 70, true);
        dueLate(x, 2);
        x.set(1, 0);
        dueLate(x, 2);
        x.pass(71);
        dueLate(x, 5);
        x.takeIn(0, 1, 1, 1, false);
        dueLate(x, 5);
        // Only those that wait are counted: one is too heavy for what the rushes leave of the room.
        x.set(1, 1);
        x.load(0);
        Check.due("count(2)", x.count(2), 1);
        dueLate(x, 1);
        oneIsDroppedOnce();
        rushesAndWeightsAreNoMatter();
    }

    private static void oneIsDroppedOnce() {
        PileTickets x = new PileTickets();
        x.takeIn(0, 1, 10, 10, false);
        x.takeIn(0, 1, 8, 11, false);
        x.takeIn(0, 1, 5, 12, false);
        x.takeIn(0, 1, 8, 12, false);
        dueLate(x, 3);
    }

    private static void rushesAndWeightsAreNoMatter() {
        PileTickets x = new PileTickets();
        x.room(0, 10);
        x.room(1, 10);
        x.takeIn(0, 20, 10, 20, true);
        x.takeIn(1, 20, 10, 10, false);
        dueLate(x, 0);
        x.rush(0);
        x.rush(1);
        dueLate(x, 0);
        x.takeIn(2, 20, 1, 20, true);
        dueLate(x, 1);
    }

    /** For up to 6 piles the answer of all orders is due, for up to 10 that of all sets in the order of their promises. */
    private static void fewestLateAgrees(int what) {
        int seed = 1;
        for (int run = 0; run < 1200; run++) {
            PileTickets x = new PileTickets();
            int[][] piles = new int[run % 11][2];
            for (int[] pile : piles) {
                seed = seed * 1103515245 + 12345;
                pile[0] = 1 + (seed >>> 16) % (run % 2 == 0 ? 60 : run % 4 == 1 ? 8 : 3);
                seed = seed * 1103515245 + 12345;
                pile[1] = 1 + (seed >>> 16) % (run % 2 == 0 ? 150 : run % 4 == 1 ? 25 : 15);
                x.takeIn(seed >>> 28 & 3, 1, pile[0], pile[1], (seed >>> 20 & 1) == 1);
            }
            // By then some of the promises may be past.
            x.pass(1 + run % 7);
            Arrays.sort(piles, Comparator.comparingInt(pile -> pile[1]));
            int due = piles.length < 7 ? fewestOfOrders(piles, 0, 1 + run % 7, 0)
                    : piles.length - mostInTime(piles, 0, 1 + run % 7);
            Check.due("fewestLate(" + what + ") of run " + run, x.fewestLate(what), due);
        }
    }

    private static int fewestOfOrders(int[][] piles, int washed, int clock, int late) {
        int fewest = washed == (1 << piles.length) - 1 ? late : Integer.MAX_VALUE;
        for (int pile = 0; pile < piles.length; pile++) {
            if ((washed >> pile & 1) == 0) {
                int end = clock + piles[pile][0];
                int own = end > piles[pile][1] ? 1 : 0;
                fewest = Math.min(fewest, fewestOfOrders(piles, washed | 1 << pile, end, late + own));
            }
        }
        return fewest;
    }

    private static int mostInTime(int[][] piles, int rank, int clock) {
        if (rank == piles.length) {
            return 0;
        }
        int most = mostInTime(piles, rank + 1, clock);
        int end = clock + piles[rank][0];
        return end > piles[rank][1] ? most : Math.max(most, 1 + mostInTime(piles, rank + 1, end));
    }

    private static void fewestLateOfNoneAndOfTen() {
        dueLate(new PileTickets(), 0);
        dueLate(Scenes.fullShelves(), 0);
        PileTickets inTime = new PileTickets();
        PileTickets oneLate = new PileTickets();
        PileTickets allLate = new PileTickets();
        for (int pile = 10; pile >= 1; pile--) {
            inTime.takeIn(0, 1, 10, 10 * pile, false);
            oneLate.takeIn(0, 1, 10, 10 * pile - 1, false);
            allLate.takeIn(0, 1, 1 + pile, 1, true);
        }
        dueLate(inTime, 0);
        dueLate(oneLate, 1);
        dueLate(allLate, 10);
        inTime.pass(1);
        dueLate(inTime, 1);
        inTime.pass(99);
        dueLate(inTime, 10);
        PileTickets last = new PileTickets();
        Scenes.passTo(last, 99999);
        last.takeIn(0, 1, 60, 60, false);
        last.takeIn(0, 1, 60, 119, false);
        dueLate(last, 1);
    }

    private static void fewestLateThrows() {
        for (PileTickets x : new PileTickets[] {new PileTickets(), Scenes.waiting(10)}) {
            for (int what : Check.outside(0, 1)) {
                Check.dueThrow(x, "fewestLate(" + what + ")", Check.ARGUMENT, () -> x.fewestLate(what));
            }
        }
    }

    // ---- lateShare

    private static void lateShareFollowsThePiles() {
        PileTickets x = new PileTickets();
        x.takeIn(0, 1, 5, 4, false);
        x.takeIn(0, 1, 5, 5, false);
        x.takeIn(0, 1, 5, 6, false);
        x.load(0);
        x.pass(5);
        Check.dueShare("lateShare()", x.lateShare(), 1.0 / 3);
        x.handOut(100, 0);
        x.handOut(101, 1);
        x.pass(240);
        Check.dueShare("lateShare() does not forget", x.lateShare(), 1.0 / 3);
        x.takeIn(0, 1, 5, 1, false);
        x.load(0);
        Check.dueShare("lateShare() without the one in the machine", x.lateShare(), 1.0 / 3);
        x.pass(5);
        Check.dueShare("lateShare()", x.lateShare(), 0.5);
        x.undo();
        Check.dueShare("lateShare() behind undo()", x.lateShare(), 1.0 / 3);
    }

    /** At the clock 5, some of the piles on the shelves are late. */
    private static PileTickets shelved(int piles, int late) {
        PileTickets x = new PileTickets();
        for (int pile = 0; pile < piles; pile++) {
            x.takeIn(0, 1, 5, pile < late ? 4 : 5, false);
        }
        x.load(0);
        x.pass(5);
        return x;
    }

    private static void lateShareDivides() {
        for (int piles = 1; piles <= 8; piles++) {
            for (int late = 0; late <= piles; late++) {
                double share = shelved(piles, late).lateShare();
                Check.dueShare("lateShare() of " + late + " in " + piles, share, (double) late / piles);
            }
        }
        Check.dueShare("lateShare() of full shelves", Scenes.fullShelves().lateShare(), 0.0);
        PileTickets full = Scenes.fullShelves();
        full.pass(11);
        full.handOut(100, 0);
        Check.dueShare("lateShare() with one put there by handOut()", full.lateShare(), 1.0 / 9);
        Check.dueShare("lateShare() of 1 in 112", manyShelved().lateShare(), 1.0 / 112);
        lateSharesOneByOne();
    }

    /** Each pile is washed and handed out by itself, and two of three are late. */
    private static void lateSharesOneByOne() {
        PileTickets x = new PileTickets();
        int late = 0;
        for (int piles = 1; piles <= 80; piles++) {
            late += piles % 3 == 0 ? 0 : 1;
            x.takeIn(0, 1, 2, piles % 3 == 0 ? 2 : 1, false);
            x.load(0);
            x.pass(2);
            Check.dueShare("lateShare() of " + late + " in " + piles, x.lateShare(), (double) late / piles);
            x.handOut(99 + piles, 0);
            Check.dueShare("the same, handed out", x.lateShare(), (double) late / piles);
        }
    }

    private static PileTickets manyShelved() {
        PileTickets x = new PileTickets();
        int ticket = 100;
        for (int time = 0; time < 14; time++) {
            for (int pile = 0; pile < 8; pile++) {
                x.takeIn(0, 1, 2, ticket == 100 && pile == 0 ? 1 : 500, false);
            }
            x.load(1);
            x.pass(2);
            for (int shelf = 0; shelf < 8; shelf++) {
                x.handOut(ticket, shelf);
                ticket++;
            }
        }
        return x;
    }

    private static void lateShareWithoutAny() {
        PileTickets x = new PileTickets();
        Check.dueShare("lateShare() of a new object", x.lateShare(), 0.0);
        x.takeIn(0, 1, 5, 1, false);
        x.pass(9);
        Check.dueShare("lateShare() of a pile that waits past its promise", x.lateShare(), 0.0);
        x.load(0);
        x.pass(4);
        Check.dueShare("lateShare() of a pile in a machine past its promise", x.lateShare(), 0.0);
        x.pass(1);
        Check.dueShare("lateShare()", x.lateShare(), 1.0);
        x.undo();
        Check.dueShare("lateShare() behind undo()", x.lateShare(), 0.0);
    }

    // ---- digest

    /** A room in which something has happened to each count. */
    private static PileTickets lived() {
        PileTickets x = Scenes.fullShelves();
        x.pass(11);
        x.handOut(100, 0);
        x.handOut(100, 1);
        x.takeIn(3, 5, 50, 40, true);
        x.takeIn(3, 5, 50, 40, true);
        x.load(1);
        return x;
    }

    private static void digestOfTheSameState() {
        PileTickets x = Scenes.typed("b2/3@4!");
        x.read();
        x.keep(0);
        x.pass(1);
        Scenes.type(x, "a");
        PileTickets y = new PileTickets();
        y.takeIn(1, 2, 3, 4, true);
        y.pass(1);
        y.keep(0);
        y.append('b');
        y.clearBuffer();
        y.append('a');
        Check.due("digest() of the same state by another way", x.digest(), y.digest());
        Check.due("digest() again", x.digest(), y.digest());
        y.rush(0);
        Check.due("whether digest() sees a rush taken back", x.digest() == y.digest() ? 1 : 0, 0);
        Check.due("undo(), as digest() changes nothing", x.undo(), 1);
    }

    private static void digestOfANewObject() {
        Check.due("digest()", new PileTickets().digest(), -6113168286903869956L);
    }

    private static void digestAddsByOrder() {
        // The last values weigh least: the length of the buffer 31, its one code 1; without one the length weighs 1.
        PileTickets x = new PileTickets();
        long empty = x.digest();
        x.append('~');
        Check.due("digest() with a code", x.digest(), 31 * (empty + 1) + '~');
        x.append('!');
        Check.due("digest() with two codes", x.digest(), 31 * (31 * (empty + 2) + '~') + '!');
        Scenes.type(x, "z".repeat(58));
        Digests.due("of a full buffer", x, 0, "~!" + "z".repeat(58));
    }

    private static void digestOfSettings() {
        PileTickets x = new PileTickets();
        x.set(0, 9);
        Digests.due("of the settings 9 and 1", x, 0, "");
        x.set(1, 0);
        Digests.due("of the settings 9 and 0", x, 0, "");
    }

    private static void digestOfPlaces() {
        PileTickets x = Scenes.busy();
        Digests.due("of three places", x, 1, "a1/");
        PileTickets full = new PileTickets();
        for (int place = 0; place < 10; place++) {
            full.takeIn(place % 4, 1 + place, 30 - place, 50 + 7 * place % 10, place % 3 == 0);
        }
        full.load(1);
        Digests.due("of ten places", full, 0, "");
        full.pass(30);
        Digests.due("of ten places, some with shelves", full, 0, "");
    }

    private static void digestOfMachines() {
        PileTickets x = new PileTickets();
        x.room(1, 59);
        x.takeIn(3, 20, 60, 9, false);
        x.takeIn(2, 19, 50, 99, false);
        x.takeIn(2, 18, 59, 99, false);
        x.load(0);
        Digests.due("of a machine that runs", x, 0, "");
        x.load(1);
        Digests.due("of two machines that run", x, 0, "");
        Digests.due("of a machine that ended", Scenes.fullShelves(), 0, "");
    }

    private static void digestOfShelves() {
        PileTickets x = Scenes.fullShelves();
        x.handOut(102, 2);
        x.handOut(104, 4);
        x.handOut(106, 6);
        Digests.due("of full and free shelves", x, 0, "");
    }

    private static void digestOfRanks() {
        PileTickets x = new PileTickets();
        for (int place = 0; place < 10; place++) {
            x.takeIn(0, 1, 1, 1 + 7 * place % 10, place == 4);
        }
        Digests.due("of ten ranks", x, 0, "");
        x.set(1, 0);
        Digests.due("of ten ranks without rushes ahead", x, 0, "");
    }

    private static void digestOfEnds() {
        PileTickets x = Scenes.waiting(1);
        x.load(1);
        Digests.due("of an end in 1 minute", x, 0, "");
        PileTickets full = Scenes.fullShelves();
        full.pass(1);
        Digests.due("of an end that is past", full, 0, "");
    }

    private static void digestOfLateOnes() {
        PileTickets x = new PileTickets();
        for (int pile = 0; pile < 6; pile++) {
            x.takeIn(0, 1, 9, 19, false);
        }
        Check.due("fewestLate(0)", x.fewestLate(0), 4);
        Digests.due("of four late ones", x, 0, "");
    }

    private static void digestOfShares() {
        for (int piles = 1; piles <= 8; piles++) {
            for (int late = 0; late <= piles; late++) {
                Digests.due("of " + late + " late in " + piles, shelved(piles, late), 0, "");
            }
        }
        Digests.due("of 1 late in 112", manyShelved(), 0, "");
    }

    private static void digestOfSlots() {
        for (int slots = 0; slots < 4; slots++) {
            PileTickets x = new PileTickets();
            long empty = x.digest();
            for (int slot = 0; slot < 2; slot++) {
                if ((slots >> slot & 1) == 1) {
                    x.keep(slot);
                    x.keep(slot);
                }
            }
            Check.due("digest() of the slots " + slots, x.digest(), empty + 961 * (slots & 1) + 31 * (slots >> 1));
        }
    }

    private static void digestOfTheBuffer() {
        PileTickets x = Scenes.typed("a1/~!");
        Digests.due("of a buffer", x, 0, "a1/~!");
        x.clearBuffer();
        Digests.due("of a buffer cleared", x, 0, "");
    }

    private static void digestOfABusyRoom() {
        PileTickets x = Scenes.busy();
        x.keep(1);
        x.rush(2);
        Digests.due("of a busy room", x, 3, "a1/");
        x.undo();
        Digests.due("of a busy room behind undo()", x, 3, "a1/");
    }
}
