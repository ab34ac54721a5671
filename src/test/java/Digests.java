/** The hash of the whole state, built anew from the answers of the other calls. */
final class Digests {
    private Digests() {
    }

    /** The digest is due for these answers, a mask of the slots with a snapshot, and the text in the buffer. */
    static void due(String call, PileTickets x, int slots, String buffer) {
        long hash = ofPlaces(ofCounts(3557, x), x);
        hash = ofForecasts(ofMachinesAndShelves(hash, x), x);
        hash = 31 * (31 * hash + (slots & 1)) + (slots >> 1);
        hash = 31 * hash + buffer.length();
        for (int at = 0; at < buffer.length(); at++) {
            hash = 31 * hash + buffer.charAt(at);
        }
        Check.due("digest() " + call, x.digest(), hash);
    }

    private static long ofCounts(long start, PileTickets x) {
        long hash = start;
        for (int what = 0; what <= 10; what++) {
            hash = 31 * hash + x.count(what);
        }
        return 31 * (31 * hash + x.setting(0)) + x.setting(1);
    }

    private static long ofPlaces(long start, PileTickets x) {
        long hash = start;
        for (int place = 0; place < 10; place++) {
            for (int what = 0; what <= 10; what++) {
                hash = 31 * hash + x.pileOf(place, what);
            }
        }
        return hash;
    }

    private static long ofMachinesAndShelves(long start, PileTickets x) {
        long hash = start;
        for (int machine = 0; machine < 2; machine++) {
            for (int what = 0; what <= 5; what++) {
                hash = 31 * hash + x.machineOf(machine, what);
            }
            hash = 31 * hash + x.ifLoaded(machine);
        }
        for (int shelf = 0; shelf < 8; shelf++) {
            hash = 31 * hash + x.shelf(shelf);
        }
        return hash;
    }

    private static long ofForecasts(long start, PileTickets x) {
        long hash = start;
        for (int rank = 0; rank < 10; rank++) {
            hash = 31 * hash + x.waiting(rank);
        }
        hash = 31 * (31 * (31 * hash + x.endsIn()) + x.fewestLate(0)) + x.fewestLate(1);
        return 31 * hash + Double.doubleToLongBits(x.lateShare());
    }
}
