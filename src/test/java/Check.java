/** Compares answers with those that are due; a test ends with end(). */
final class Check {
    private static int wrong = 0;
    private static int made = 0;

    private Check() {
    }

    static void due(String call, long got, long want) {
        made++;
        if (got != want) {
            wrong++;
            System.out.println(call + " answered " + got + ", due is " + want);
        }
    }

    static void dueShare(String call, double got, double want) {
        due(call, Double.doubleToRawLongBits(got), Double.doubleToRawLongBits(want));
    }

    static void dueText(String what, String got, String want) {
        made++;
        if (!got.equals(want)) {
            wrong++;
            System.out.println(what + " is " + got + ", due is " + want);
        }
    }

    /** The call must throw exactly this class, and leave the object as it was. */
    static void dueThrow(PileTickets x, String call, Class<?> want, Runnable run) {
        made++;
        long before = x.digest();
        String got = "nothing";
        try {
            run.run();
        } catch (RuntimeException e) {
            got = e.getClass().getName();
        }
        if (!got.equals(want.getName())) {
            wrong++;
            System.out.println(call + " throws " + got + ", due is " + want.getName());
        }
        due("digest() after " + call, x.digest(), before);
    }

    static final Class<?> INDEX = IndexOutOfBoundsException.class;
    static final Class<?> ARGUMENT = IllegalArgumentException.class;
    static final Class<?> STATE = IllegalStateException.class;

    static void end() {
        System.out.println(made + " checks, " + wrong + " wrong");
        if (made == 0 || wrong > 0) {
            System.exit(1);
        }
    }

    // ---- what several tests set up

    static void type(PileTickets x, String text) {
        for (int at = 0; at < text.length(); at++) {
            x.append(text.charAt(at));
        }
    }

    /** A house in which all shelves are full and machine 0 has ended with two piles left in it. */
    static PileTickets fullShelves() {
        PileTickets x = new PileTickets();
        x.room(0, 60);
        for (int pile = 0; pile < 10; pile++) {
            x.takeIn(2, 1 + pile % 6, 10, pile == 8 ? 20 : 100, pile == 9);
        }
        x.load(0);
        x.pass(10);
        return x;
    }
}
