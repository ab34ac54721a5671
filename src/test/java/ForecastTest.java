/** Promises 21 to 26: waiting, ifLoaded, endsIn, fewestLate, lateShare, digest. */
public final class ForecastTest {
    public static void main(String[] args) {
        waitingFollowsTheOrder();
        waitingThrows();
        ifLoadedTellsPlaces();
        ifLoadedThrows();
        endsInTellsTheNextEnd();
        fewestLateOfKnownLines();
        fewestLateAgreesWithAllOrders();
        fewestLateThrows();
        lateShareDivides();
        digestOfANewObject();
        digestSeesEveryPart();
        Check.end();
    }

    private static void dueWaiting(PileTickets x, int... due) {
        for (int rank = 0; rank <= 10; rank++) {
            int place = rank < due.length ? due[rank] : -1;
            Check.due("waiting(" + rank + ")", x.waiting(rank), place);
            if (place >= 0) {
                Check.due("pileOf(" + place + ", 8)", x.pileOf(place, 8), rank);
            }
        }
        Check.due("waiting(MAX_VALUE)", x.waiting(Integer.MAX_VALUE), -1);
    }

    private static void waitingFollowsTheOrder() {
        PileTickets x = new PileTickets();
        x.takeIn(0, 1, 1, 30, false);
        x.takeIn(1, 1, 1, 20, false);
        x.takeIn(2, 1, 1, 40, true);
        x.takeIn(3, 1, 1, 30, false);
        x.takeIn(0, 1, 1, 35, true);
        dueWaiting(x, 4, 2, 1, 0, 3);
        x.set(1, 0);
        dueWaiting(x, 1, 0, 3, 4, 2);
        x.rush(1);
        dueWaiting(x, 1, 0, 3, 4, 2);
        x.set(1, 1);
        dueWaiting(x, 1, 4, 2, 0, 3);
        x.load(0);
        Check.due("pileOf(1, 6)", x.pileOf(1, 6), 1);
        dueWaiting(x, 4, 2, 0, 3);
        x.pass(1);
        x.handOut(101, 0);
        // The lowest place gets the greatest ticket, which is behind at the same promise.
        x.takeIn(1, 1, 1, 29, false);
        Check.due("pileOf(1, 0)", x.pileOf(1, 0), 105);
        dueWaiting(x, 4, 2, 0, 3, 1);
    }

    private static void waitingThrows() {
        PileTickets x = new PileTickets();
        for (int rank : new int[] {-1, -2, Integer.MIN_VALUE}) {
            Check.dueThrow(x, "waiting(" + rank + ")", Check.ARGUMENT, () -> x.waiting(rank));
        }
    }

    private static void ifLoadedTellsPlaces() {
        PileTickets x = new PileTickets();
        x.room(0, 10);
        x.takeIn(2, 20, 5, 5, false);
        Check.due("ifLoaded(0)", x.ifLoaded(0), 0);
        Check.due("ifLoaded(1)", x.ifLoaded(1), 1);
        x.takeIn(1, 6, 5, 6, false);
        x.takeIn(2, 9, 5, 7, false);
        x.takeIn(1, 4, 5, 8, false);
        x.takeIn(1, 1, 5, 9, true);
        Check.due("ifLoaded(0)", x.ifLoaded(0), 1 << 4 | 1 << 1);
        Check.due("ifLoaded(1)", x.ifLoaded(1), 1 << 4 | 1 << 3 | 1 << 1);
        x.set(1, 0);
        Check.due("ifLoaded(0)", x.ifLoaded(0), 1 << 3 | 1 << 1);
        Check.due("ifLoaded(1)", x.ifLoaded(1), 1 << 2 | 1);
        x.load(1);
        Check.due("ifLoaded(1) of a running one", x.ifLoaded(1), 1 << 4 | 1 << 3 | 1 << 1);
        Check.due("count(2)", x.count(2), 3);
        x.load(0);
        Check.due("ifLoaded(0)", x.ifLoaded(0), 1 << 4);
        Check.due("pileOf(4, 6)", x.pileOf(4, 6), 0);
    }

    private static void ifLoadedThrows() {
        PileTickets x = new PileTickets();
        for (int machine : new int[] {-1, 2, Integer.MAX_VALUE, Integer.MIN_VALUE}) {
            Check.dueThrow(x, "ifLoaded(" + machine + ")", Check.INDEX, () -> x.ifLoaded(machine));
        }
    }

    private static void endsInTellsTheNextEnd() {
        PileTickets x = new PileTickets();
        x.takeIn(0, 1, 20, 50, false);
        x.takeIn(1, 1, 12, 50, false);
        Check.due("endsIn()", x.endsIn(), -1);
        x.load(0);
        Check.due("endsIn()", x.endsIn(), 20);
        x.load(1);
        Check.due("endsIn()", x.endsIn(), 12);
        x.pass(11);
        Check.due("endsIn()", x.endsIn(), 1);
        x.pass(1);
        Check.due("endsIn()", x.endsIn(), 8);
        x.pass(8);
        Check.due("endsIn()", x.endsIn(), -1);
        PileTickets full = Check.fullShelves();
        Check.due("endsIn()", full.endsIn(), 0);
        full.pass(9);
        Check.due("endsIn()", full.endsIn(), 0);
        full.handOut(100, 0);
        full.takeIn(0, 1, 9, 9, false);
        full.load(1);
        Check.due("endsIn()", full.endsIn(), 0);
        full.handOut(101, 1);
        Check.due("endsIn()", full.endsIn(), 9);
    }

    private static void dueLate(PileTickets x, int due) {
        Check.due("fewestLate(0)", x.fewestLate(0), due);
        Check.due("fewestLate(1)", x.fewestLate(1), due);
    }

    private static void fewestLateOfKnownLines() {
        PileTickets x = new PileTickets();
        dueLate(x, 0);
        x.takeIn(0, 1, 10, 10, false);
        dueLate(x, 0);
        x.pass(1);
        dueLate(x, 1);
        x.undo();
        // Two short ones are in time if the longest is dropped, although the first is in time alone.
        x.takeIn(0, 20, 5, 11, true);
        x.takeIn(0, 20, 6, 11, false);
        dueLate(x, 1);
        x.takeIn(0, 1, 60, 71, false);
        dueLate(x, 1);
        x.takeIn(0, 1, 60, 70, true);
        dueLate(x, 2);
        x.pass(71);
        dueLate(x, 5);
        x.takeIn(0, 1, 1, 1, false);
        dueLate(x, 5);
        // Only those that wait are counted: one is too heavy for what the rushes leave of the room.
        x.load(0);
        Check.due("count(2)", x.count(2), 1);
        dueLate(x, 1);
        // One that is dropped must not be dropped again.
        PileTickets again = new PileTickets();
        again.takeIn(0, 1, 10, 10, false);
        again.takeIn(0, 1, 8, 11, false);
        again.takeIn(0, 1, 5, 12, false);
        again.takeIn(0, 1, 8, 12, false);
        dueLate(again, 3);
    }

    private static void fewestLateAgreesWithAllOrders() {
        int seed = 1;
        for (int run = 0; run < 1000; run++) {
            PileTickets x = new PileTickets();
            int piles = run % 7;
            int[] time = new int[piles];
            int[] promise = new int[piles];
            for (int pile = 0; pile < piles; pile++) {
                seed = seed * 1103515245 + 12345;
                time[pile] = 1 + (seed >>> 16) % (run % 2 == 0 ? 60 : 8);
                seed = seed * 1103515245 + 12345;
                promise[pile] = 1 + (seed >>> 16) % (run % 2 == 0 ? 150 : run % 4 == 1 ? 25 : 15);
                x.takeIn(seed >>> 28 & 3, 1, time[pile], promise[pile], (seed >>> 20 & 1) == 1);
            }
            dueLate(x, fewestOfOrders(time, promise, 0, 0, 0));
        }
    }

    private static int fewestOfOrders(int[] time, int[] promise, int washed, int clock, int late) {
        int fewest = washed == (1 << time.length) - 1 ? late : Integer.MAX_VALUE;
        for (int pile = 0; pile < time.length; pile++) {
            if ((washed >> pile & 1) == 0) {
                int end = clock + time[pile];
                int own = end > promise[pile] ? 1 : 0;
                fewest = Math.min(fewest, fewestOfOrders(time, promise, washed | 1 << pile, end, late + own));
            }
        }
        return fewest;
    }

    private static void fewestLateThrows() {
        PileTickets x = new PileTickets();
        for (int what : new int[] {-1, 2, Integer.MAX_VALUE, Integer.MIN_VALUE}) {
            Check.dueThrow(x, "fewestLate(" + what + ")", Check.ARGUMENT, () -> x.fewestLate(what));
        }
    }

    private static void lateShareDivides() {
        PileTickets x = new PileTickets();
        Check.dueShare("lateShare()", x.lateShare(), 0.0);
        x.takeIn(0, 1, 5, 9, false);
        x.load(0);
        x.pass(5);
        Check.dueShare("lateShare()", x.lateShare(), 0.0);
        x.takeIn(0, 1, 5, 4, false);
        x.takeIn(0, 1, 5, 5, false);
        x.load(0);
        x.pass(5);
        Check.dueShare("lateShare()", x.lateShare(), 1.0 / 3);
        x.handOut(101, 1);
        x.handOut(100, 0);
        Check.dueShare("lateShare() does not forget", x.lateShare(), 1.0 / 3);
        x.takeIn(0, 1, 5, 1, false);
        x.load(0);
        x.pass(5);
        Check.dueShare("lateShare()", x.lateShare(), 0.5);
        PileTickets late = new PileTickets();
        late.takeIn(0, 1, 5, 1, false);
        late.load(0);
        late.pass(5);
        Check.dueShare("lateShare()", late.lateShare(), 1.0);
        dueDigest(late, 0, "");
    }

    private static void digestOfANewObject() {
        PileTickets x = new PileTickets();
        dueDigest(x, 0, "");
        Check.due("digest() again", x.digest(), x.digest());
    }

    private static void digestSeesEveryPart() {
        PileTickets x = Check.fullShelves();
        x.pass(11);
        x.handOut(100, 0);
        dueDigest(x, 0, "");
        x.takeIn(3, 5, 50, 40, true);
        x.set(1, 0);
        dueDigest(x, 0, "");
        x.keep(1);
        dueDigest(x, 2, "");
        x.keep(0);
        dueDigest(x, 3, "");
        Check.type(x, "a1/~!");
        dueDigest(x, 3, "a1/~!");
        x.load(1);
        dueDigest(x, 3, "a1/~!");
        x.handOut(101, 1);
        dueDigest(x, 3, "a1/~!");
        x.undo();
        x.clearBuffer();
        dueDigest(x, 3, "");
    }

    /** Builds the hash anew from the answers; slots is a mask of those with a snapshot. */
    private static void dueDigest(PileTickets x, int slots, String buffer) {
        long hash = 3557;
        for (int what = 0; what <= 10; what++) {
            hash = 31 * hash + x.count(what);
        }
        hash = 31 * (31 * hash + x.setting(0)) + x.setting(1);
        for (int place = 0; place < 10; place++) {
            for (int what = 0; what <= 10; what++) {
                hash = 31 * hash + x.pileOf(place, what);
            }
        }
        for (int machine = 0; machine < 2; machine++) {
            for (int what = 0; what <= 5; what++) {
                hash = 31 * hash + x.machineOf(machine, what);
            }
            hash = 31 * hash + x.ifLoaded(machine);
        }
        for (int shelf = 0; shelf < 8; shelf++) {
            hash = 31 * hash + x.shelf(shelf);
        }
        for (int rank = 0; rank < 10; rank++) {
            hash = 31 * hash + x.waiting(rank);
        }
        hash = 31 * (31 * (31 * hash + x.endsIn()) + x.fewestLate(0)) + x.fewestLate(1);
        hash = 31 * hash + Double.doubleToLongBits(x.lateShare());
        hash = 31 * (31 * hash + (slots & 1)) + (slots >> 1);
        hash = 31 * hash + buffer.length();
        for (int at = 0; at < buffer.length(); at++) {
            hash = 31 * hash + buffer.charAt(at);
        }
        Check.due("digest()", x.digest(), hash);
    }
}
