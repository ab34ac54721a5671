/** Promises 1 to 4: a new object, takeIn, handOut, rush. */
public final class PilesTest {
    public static void main(String[] args) {
        newObject();
        takeInGivesTicketsAndPlaces();
        takeInTakesEveryEdge();
        takeInThrows();
        takeInIsRefusedWhenFull();
        lowestPlaceIsUsedAgainAndTicketsAreNot();
        handOutTellsFee();
        handOutTellsReason();
        handOutThrows();
        handOutMakesRoomForPilesInMachines();
        handOutServesMachineZeroFirst();
        shelfFreedLateMakesLate();
        rushTurns();
        rushThrows();
        Check.end();
    }

    private static void newObject() {
        Check.due("NONE", PileTickets.NONE, -1);
        PileTickets x = new PileTickets();
        for (int what = 0; what <= 10; what++) {
            Check.due("count(" + what + ")", x.count(what), 0);
        }
        for (int place = 0; place < 10; place++) {
            for (int what = 0; what <= 10; what++) {
                Check.due("pileOf", x.pileOf(place, what), -1);
            }
        }
        for (int machine = 0; machine < 2; machine++) {
            int[] due = {30 + 10 * machine, 0, -1, 0, -1, 0};
            for (int what = 0; what <= 5; what++) {
                Check.due("machineOf(" + machine + ", " + what + ")", x.machineOf(machine, what), due[what]);
            }
            Check.due("ifLoaded", x.ifLoaded(machine), 0);
        }
        for (int shelf = 0; shelf < 8; shelf++) {
            Check.due("shelf", x.shelf(shelf), -1);
        }
        Check.due("setting(0)", x.setting(0), 3);
        Check.due("setting(1)", x.setting(1), 1);
        Check.due("waiting(0)", x.waiting(0), -1);
        Check.due("endsIn()", x.endsIn(), -1);
        Check.due("fewestLate(0)", x.fewestLate(0), 0);
        Check.due("fewestLate(1)", x.fewestLate(1), 0);
        Check.dueShare("lateShare()", x.lateShare(), 0.0);
        Check.due("firstError()", x.firstError(), 0);
        Check.due("clearBuffer()", x.clearBuffer(), 0);
        for (int slot = 0; slot < 2; slot++) {
            int at = slot;
            Check.dueThrow(x, "goBack", Check.STATE, () -> x.goBack(at));
        }
        Check.dueThrow(x, "undo", Check.STATE, x::undo);
    }

    private static void takeInGivesTicketsAndPlaces() {
        PileTickets x = new PileTickets();
        x.pass(7);
        Check.due("takeIn", x.takeIn(3, 4, 5, 6, true), 100);
        Check.due("takeIn", x.takeIn(1, 2, 9, 30, false), 101);
        long[][] due = {{100, 3, 4, 5, 13, 1, 0, -1, 0, -1, 18}, {101, 1, 2, 9, 37, 0, 0, -1, 1, -1, 6}};
        for (int place = 0; place < 2; place++) {
            for (int what = 0; what <= 10; what++) {
                Check.due("pileOf(" + place + ", " + what + ")", x.pileOf(place, what), due[place][what]);
            }
        }
        Check.due("count(1)", x.count(1), 2);
        Check.due("count(2)", x.count(2), 2);
        Check.due("count(5)", x.count(5), 2);
        Check.due("count(10)", x.count(10), 3);
    }

    private static void takeInTakesEveryEdge() {
        PileTickets x = new PileTickets();
        int[][] edges = {{0, 1, 1, 1}, {3, 1, 1, 1}, {0, 20, 1, 1}, {0, 1, 60, 1}, {0, 1, 1, 999}, {3, 20, 60, 999}};
        for (int at = 0; at < edges.length; at++) {
            int[] e = edges[at];
            Check.due("takeIn", x.takeIn(e[0], e[1], e[2], e[3], false), 100 + at);
            for (int what = 1; what <= 4; what++) {
                Check.due("pileOf(" + at + ", " + what + ")", x.pileOf(at, what), e[what - 1]);
            }
        }
    }

    private static void takeInThrows() {
        PileTickets x = new PileTickets();
        int[][] wrong = {
            {-1, 1, 1, 1}, {4, 1, 1, 1}, {0, 0, 1, 1}, {0, 21, 1, 1}, {0, -5, 1, 1}, {0, 1, 0, 1}, {0, 1, 61, 1},
            {0, 1, 1, 0}, {0, 1, 1, 1000}, {0, 1, 1, -1}, {Integer.MIN_VALUE, 1, 1, 1},
            {0, Integer.MAX_VALUE, 1, 1}, {0, 1, Integer.MIN_VALUE, 1}, {0, 1, 1, Integer.MAX_VALUE}};
        for (int full = 0; full < 2; full++) {
            for (int[] w : wrong) {
                Check.dueThrow(x, "takeIn", Check.ARGUMENT, () -> x.takeIn(w[0], w[1], w[2], w[3], true));
            }
            for (int pile = 0; pile < 10; pile++) {
                x.takeIn(0, 1, 1, 1, false);
            }
        }
    }

    private static void takeInIsRefusedWhenFull() {
        PileTickets x = new PileTickets();
        for (int pile = 0; pile < 10; pile++) {
            Check.due("takeIn", x.takeIn(0, 1, 1, 1, false), 100 + pile);
            Check.due("pileOf", x.pileOf(pile, 0), 100 + pile);
        }
        while (x.count(10) > 0) {
            x.undo();
        }
        for (int pile = 4; pile < 10; pile++) {
            Check.due("takeIn", x.takeIn(0, 1, 1, 1, false), 100 + pile);
        }
        x.undo();
        x.takeIn(0, 1, 1, 1, false);
        Check.due("takeIn", x.takeIn(0, 1, 1, 1, false), -1);
        Check.due("count(1)", x.count(1), 10);
        Check.due("count(5)", x.count(5), 10);
        Check.due("count(9)", x.count(9), 1);
        Check.due("undo of a refusal", x.undo(), 5);
        Check.due("count(9)", x.count(9), 0);
        Check.due("count(1)", x.count(1), 10);
    }

    private static void lowestPlaceIsUsedAgainAndTicketsAreNot() {
        PileTickets x = new PileTickets();
        x.takeIn(0, 1, 1, 9, false);
        x.takeIn(0, 1, 1, 9, false);
        x.takeIn(0, 1, 1, 9, false);
        x.load(0);
        x.pass(1);
        Check.due("handOut", x.handOut(101, 1), 13);
        Check.due("pileOf(1, 0)", x.pileOf(1, 0), -1);
        Check.due("handOut", x.handOut(100, 0), 13);
        Check.due("takeIn", x.takeIn(1, 2, 3, 4, false), 103);
        Check.due("pileOf(0, 0)", x.pileOf(0, 0), 103);
        Check.due("pileOf(0, 6)", x.pileOf(0, 6), 0);
        Check.due("pileOf(0, 7)", x.pileOf(0, 7), -1);
        Check.due("pileOf(0, 9)", x.pileOf(0, 9), -1);
        Check.due("takeIn", x.takeIn(1, 2, 3, 4, false), 104);
        Check.due("pileOf(1, 0)", x.pileOf(1, 0), 104);
        Check.due("takeIn", x.takeIn(1, 2, 3, 4, false), 105);
        Check.due("pileOf(3, 0)", x.pileOf(3, 0), 105);
        Check.due("count(6)", x.count(6), 2);
    }

    private static void handOutTellsFee() {
        // weight, rush, late, price, fee: halves and quarters are rounded down
        int[][] cases = {{3, 0, 0, 3, 9}, {3, 1, 0, 3, 13}, {3, 1, 1, 3, 10}, {3, 0, 1, 3, 7}, {1, 0, 1, 3, 3},
            {1, 1, 1, 1, 1}, {20, 1, 0, 9, 270}, {20, 1, 1, 9, 203}, {7, 1, 1, 1, 8}, {5, 0, 1, 1, 4}};
        for (int[] c : cases) {
            PileTickets x = new PileTickets();
            x.takeIn(1, c[0], 5, c[2] == 1 ? 4 : 5, c[1] == 1);
            x.load(1);
            x.pass(5);
            x.set(0, c[3]);
            Check.due("pileOf(0, 10)", x.pileOf(0, 10), c[4]);
            Check.due("count(7)", x.count(7), c[2]);
            Check.due("handOut", x.handOut(100, 0), c[4] + 10);
            Check.due("count(8)", x.count(8), c[4]);
            Check.due("count(6)", x.count(6), 1);
            Check.due("count(1)", x.count(1), 0);
            Check.due("shelf(0)", x.shelf(0), -1);
            Check.due("count(9)", x.count(9), 0);
        }
    }

    private static void handOutTellsReason() {
        PileTickets x = new PileTickets();
        x.takeIn(0, 1, 1, 9, false);
        x.takeIn(1, 1, 9, 9, false);
        x.takeIn(2, 1, 9, 9, false);
        x.load(0);
        x.pass(1);
        x.load(0);
        Check.due("handOut on a free shelf", x.handOut(100, 1), 1);
        Check.due("handOut with another ticket", x.handOut(101, 0), 2);
        Check.due("handOut with another ticket", x.handOut(102, 7), 1);
        Check.due("handOut with no ticket", x.handOut(-1, 0), 2);
        Check.due("handOut with no ticket", x.handOut(-1, 1), 1);
        Check.due("handOut", x.handOut(Integer.MIN_VALUE, 0), 2);
        Check.due("count(9)", x.count(9), 6);
        Check.due("count(10)", x.count(10), 6);
        Check.due("count(6)", x.count(6), 0);
        Check.due("undo", x.undo(), 5);
        Check.due("count(9)", x.count(9), 5);
        Check.due("handOut", x.handOut(100, 0), 13);
        Check.due("handOut again", x.handOut(100, 0), 1);
    }

    private static void handOutThrows() {
        PileTickets x = new PileTickets();
        for (int shelf : new int[] {-1, 8, Integer.MAX_VALUE, Integer.MIN_VALUE}) {
            Check.dueThrow(x, "handOut(100, " + shelf + ")", Check.INDEX, () -> x.handOut(100, shelf));
        }
    }

    private static void handOutMakesRoomForPilesInMachines() {
        PileTickets x = Check.fullShelves();
        // The piles go to the shelves by their tickets, although the rush is ahead in the order.
        for (int shelf = 0; shelf < 8; shelf++) {
            Check.due("shelf(" + shelf + ")", x.shelf(shelf), shelf);
        }
        Check.due("count(4)", x.count(4), 8);
        Check.due("machineOf(0, 3)", x.machineOf(0, 3), 2);
        Check.due("endsIn()", x.endsIn(), 0);
        x.pass(5);
        Check.due("machineOf(0, 4)", x.machineOf(0, 4), 10);
        Check.due("handOut", x.handOut(105, 5), 28);
        Check.due("shelf(5)", x.shelf(5), 8);
        Check.due("pileOf(8, 9)", x.pileOf(8, 9), 15);
        Check.due("machineOf(0, 3)", x.machineOf(0, 3), 1);
        Check.due("load", x.load(0), -1);
        Check.due("handOut", x.handOut(100, 0), 13);
        Check.due("shelf(0)", x.shelf(0), 9);
        Check.due("machineOf(0, 2)", x.machineOf(0, 2), -1);
        Check.due("endsIn()", x.endsIn(), -1);
        Check.due("count(7)", x.count(7), 0);
        Check.due("handOut", x.handOut(101, 1), 16);
        Check.due("shelf(1)", x.shelf(1), -1);
        Check.dueShare("lateShare()", x.lateShare(), 0.0);
    }

    private static void handOutServesMachineZeroFirst() {
        PileTickets x = new PileTickets();
        for (int pile = 0; pile < 8; pile++) {
            x.takeIn(0, 1, 1, 50, false);
        }
        x.load(1);
        x.pass(1);
        x.takeIn(1, 1, 2, 50, false);
        x.takeIn(2, 1, 5, 50, false);
        Check.due("handOut", x.handOut(100, 0), 13);
        x.takeIn(3, 1, 1, 50, false);
        x.load(1);
        x.load(0);
        Check.due("pass", x.pass(4), 1);
        Check.due("shelf(0)", x.shelf(0), 8);
        x.takeIn(0, 1, 1, 50, true);
        Check.due("load", x.load(1), 1);
        Check.due("pass", x.pass(3), 0);
        // Machine 1 has ended before machine 0, but machine 0 is looked at first.
        Check.due("machineOf(1, 4)", x.machineOf(1, 4), 6);
        Check.due("machineOf(0, 4)", x.machineOf(0, 4), 6);
        Check.due("handOut", x.handOut(103, 3), 13);
        Check.due("shelf(3)", x.shelf(3), 9);
        Check.due("machineOf(0, 3)", x.machineOf(0, 3), 0);
        Check.due("machineOf(1, 3)", x.machineOf(1, 3), 1);
        Check.due("handOut", x.handOut(104, 4), 13);
        Check.due("machineOf(1, 3)", x.machineOf(1, 3), 0);
    }

    private static void shelfFreedLateMakesLate() {
        PileTickets x = Check.fullShelves();
        x.pass(10);
        Check.due("handOut at the promise", x.handOut(100, 0), 13);
        Check.due("count(7)", x.count(7), 0);
        x.undo();
        x.pass(1);
        Check.due("handOut behind the promise", x.handOut(100, 0), 13);
        Check.due("count(7)", x.count(7), 1);
        Check.due("pileOf(8, 9)", x.pileOf(8, 9), 21);
        Check.due("pileOf(8, 10)", x.pileOf(8, 10), 7);
        Check.dueShare("lateShare()", x.lateShare(), 1.0 / 9);
    }

    private static void rushTurns() {
        PileTickets x = new PileTickets();
        x.takeIn(0, 3, 1, 5, false);
        x.takeIn(0, 3, 1, 9, false);
        Check.due("rush(1)", x.rush(1), 1);
        Check.due("pileOf(1, 5)", x.pileOf(1, 5), 1);
        Check.due("pileOf(1, 10)", x.pileOf(1, 10), 13);
        Check.due("waiting(0)", x.waiting(0), 1);
        Check.due("rush(1)", x.rush(1), 0);
        Check.due("waiting(0)", x.waiting(0), 0);
        Check.due("pileOf(1, 10)", x.pileOf(1, 10), 9);
        Check.due("count(10)", x.count(10), 4);
        Check.due("undo()", x.undo(), 3);
        Check.due("pileOf(1, 5)", x.pileOf(1, 5), 1);
        Check.due("count(9)", x.count(9), 0);
    }

    private static void rushThrows() {
        PileTickets x = new PileTickets();
        x.takeIn(0, 1, 1, 5, false);
        for (int place : new int[] {-1, 1, 9, 10, Integer.MAX_VALUE, Integer.MIN_VALUE}) {
            Check.dueThrow(x, "rush(" + place + ")", Check.INDEX, () -> x.rush(place));
        }
        x.load(0);
        Check.dueThrow(x, "rush in a machine", Check.STATE, () -> x.rush(0));
        x.pass(1);
        Check.dueThrow(x, "rush on a shelf", Check.STATE, () -> x.rush(0));
        x.handOut(100, 0);
        Check.dueThrow(x, "rush of a pile handed out", Check.INDEX, () -> x.rush(0));
    }
}
