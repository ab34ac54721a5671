import java.util.function.IntSupplier;

/** Compares answers with those that are due; a test ends with end(). */
final class Check {
    static final Class<?> INDEX = IndexOutOfBoundsException.class;
    static final Class<?> ARGUMENT = IllegalArgumentException.class;
    static final Class<?> STATE = IllegalStateException.class;

    private static String about = "";
    private static int wrong = 0;
    private static int made = 0;

    private Check() {
    }

    /** What is found wrong from now on is told with these words ahead of it. */
    static void about(String words) {
        about = words;
    }

    static int made() {
        return made;
    }

    static void wrong(String what) {
        made++;
        wrong++;
        System.out.println(about + what);
    }

    static void due(String call, long got, long want) {
        dueSame(call, got == want, Long.toString(got), Long.toString(want));
    }

    static void dueShare(String call, double got, double want) {
        due(call, Double.doubleToRawLongBits(got), Double.doubleToRawLongBits(want));
    }

    static void dueText(String what, String got, String want) {
        dueSame(what, got.equals(want), got, want);
    }

    private static void dueSame(String what, boolean isSame, String got, String want) {
        if (isSame) {
            made++;
        } else {
            wrong(what + " is " + got + ", due is " + want);
        }
    }

    /** The call must throw exactly this class, and leave the object as it was. */
    static void dueThrow(PileTickets x, String call, Class<?> want, Runnable run) {
        long before = x.digest();
        String got = "nothing";
        try {
            run.run();
        } catch (RuntimeException e) {
            got = e.getClass().getName();
        }
        dueText("what " + call + " throws", got, want.getName());
        due("digest() after " + call, x.digest(), before);
    }

    /** The call must save one state more (of fewer than six), and undo() must bring back all that was before it. */
    static void dueUndoable(PileTickets x, String call, IntSupplier run, int want) {
        int saved = x.count(10);
        long before = x.digest();
        due(call, run.getAsInt(), want);
        due("count(10) after " + call, x.count(10), saved + 1);
        due("undo() of " + call, x.undo(), saved);
        due("digest() after undo() of " + call, x.digest(), before);
    }

    /** The call must be refused with this answer: counted and saved so, and nothing else changed. */
    static void dueRefused(PileTickets x, String call, IntSupplier run, int want) {
        int refused = x.count(9);
        int saved = x.count(10);
        String before = Scenes.all(x);
        due(call, run.getAsInt(), want);
        due("count(9) after " + call, x.count(9), refused + 1);
        due("count(10) after " + call, x.count(10), Math.min(6, saved + 1));
        dueText("the room after " + call, Scenes.all(x), before);
    }

    /** Numbers just outside of a range, and far. */
    static int[] outside(int least, int most) {
        return new int[] {least - 1, most + 1, least - 100, most + 100, Integer.MIN_VALUE, Integer.MAX_VALUE};
    }

    static void end() {
        System.out.println(made + " checks, " + wrong + " wrong");
        if (made == 0 || wrong > 0) {
            System.exit(1);
        }
    }
}
