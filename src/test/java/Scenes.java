/** Rooms that several tests begin with, and what is done to them and seen of them more than once. */
final class Scenes {
    private Scenes() {
    }

    static void type(PileTickets x, String text) {
        for (int at = 0; at < text.length(); at++) {
            x.append(text.charAt(at));
        }
    }

    static PileTickets typed(String text) {
        PileTickets x = new PileTickets();
        type(x, text);
        return x;
    }

    /** Takes in piles of one kind, promised far off. */
    static void takeIn(PileTickets x, int piles) {
        for (int pile = 0; pile < piles; pile++) {
            x.takeIn(0, 1, 1, 500, false);
        }
    }

    static PileTickets waiting(int piles) {
        PileTickets x = new PileTickets();
        takeIn(x, piles);
        return x;
    }

    /** At the clock 1, the piles 100, 101, ... of the fee 3 stand on the shelves 0, 1, ... */
    static PileTickets onShelves(int piles) {
        PileTickets x = waiting(piles);
        x.load(1);
        x.pass(1);
        return x;
    }

    /** One pile, washed for 5 minutes, stands on shelf 0; it is late if it was promised within 4. */
    static PileTickets washed(int weight, int within, boolean isRush) {
        PileTickets x = new PileTickets();
        x.takeIn(1, weight, 5, within, isRush);
        x.load(1);
        x.pass(5);
        return x;
    }

    /** At the clock 10, all shelves are full and machine 0 has ended with two piles left in it. */
    static PileTickets fullShelves() {
        PileTickets x = new PileTickets();
        x.room(0, 60);
        for (int pile = 0; pile < 10; pile++) {
            x.takeIn(2, 1 + pile % 6, 10, pile == 8 ? 20 : 100, pile == 9);
        }
        x.load(0);
        x.pass(10);
        return x;
    }

    /**
     * At the clock 9, the pile at 0 stands on shelf 0, that at 1 is in machine 1 and that at 2 waits; there are six
     * saved states of the clocks 3 to 8, a snapshot of the clock 3 in slot 0, and "a1/" in the buffer.
     */
    static PileTickets busy() {
        PileTickets x = new PileTickets();
        x.takeIn(0, 2, 3, 2, true);
        x.load(0);
        x.pass(3);
        x.keep(0);
        x.takeIn(1, 4, 50, 20, false);
        x.load(1);
        x.takeIn(2, 5, 6, 30, true);
        type(x, "a1/");
        for (int minute = 0; minute < 6; minute++) {
            x.pass(1);
        }
        return x;
    }

    /** The same house, with one saved state alone; its snapshot is in slot 1. */
    static PileTickets withOneSaved(PileTickets x) {
        x.keep(1);
        for (int saved = x.count(10); saved > 0; saved--) {
            x.undo();
        }
        x.goBack(1);
        return x;
    }

    /** Lets the clock come to a number, by as few calls as can be. */
    static void passTo(PileTickets x, int clock) {
        for (int left = clock - x.count(0); left > 0; left -= 240) {
            x.pass(Math.min(240, left));
        }
    }

    /** What the looks tell of the house, but for what was refused and how many states are saved. */
    static String all(PileTickets x) {
        StringBuilder text = new StringBuilder();
        for (int what = 0; what <= 8; what++) {
            text.append(x.count(what)).append(' ');
        }
        for (int place = 0; place < 10; place++) {
            for (int what = 0; what <= 10; what++) {
                text.append(x.pileOf(place, what)).append(' ');
            }
        }
        for (int machine = 0; machine < 2; machine++) {
            for (int what = 0; what <= 5; what++) {
                text.append(x.machineOf(machine, what)).append(' ');
            }
        }
        for (int shelf = 0; shelf < 8; shelf++) {
            text.append(x.shelf(shelf)).append(' ');
        }
        return text.append(x.setting(0)).append(x.setting(1)).append(x.lateShare()).toString();
    }
}
