import java.util.function.LongSupplier;

/** All promises at once: long mixed runs, each answer and each state compared with the model's. */
public final class ModelTest {
    private static final int RUNS = 250;
    // A step makes at most 20 calls, and the document promises nothing after the 512th.
    private static final int LAST_CALL = 490;

    private int seed;
    private final int flavour;
    private final PileTickets x = new PileTickets();
    private final Model model = new Model();
    private String pending = "";
    private int calls;

    private ModelTest(int run) {
        seed = 77 * run + 5;
        flavour = run % 4;
    }

    public static void main(String[] args) {
        for (int run = 0; run < RUNS; run++) {
            ModelTest test = new ModelTest(run);
            while (test.calls < LAST_CALL) {
                test.step(run + "." + test.calls + " ");
            }
        }
        Check.end();
    }

    /** A number from least to most, the same in each run of the test. */
    private int pick(int least, int most) {
        seed = seed * 1664525 + 1013904223;
        return least + (int) ((seed >>> 8) % (most - least + 1L));
    }

    /** Mostly a right argument, now and then one that is not. */
    private int argument(int least, int most) {
        int kind = pick(0, 60);
        if (kind == 0) {
            return least - 1;
        }
        if (kind == 1) {
            return most + 1;
        }
        if (kind == 2) {
            return pick(0, 1) == 0 ? Integer.MIN_VALUE : Integer.MAX_VALUE;
        }
        return kind < 6 ? least : kind < 9 ? most : pick(least, most);
    }

    private void due(String call, LongSupplier got, LongSupplier want) {
        calls += 2;
        Check.dueText(call, answer(got), answer(want));
        Check.due("digest() after " + call, x.digest(), model.digest());
    }

    private static String answer(LongSupplier call) {
        try {
            return Long.toString(call.getAsLong());
        } catch (RuntimeException e) {
            return e.getClass().getName();
        }
    }

    private void step(String at) {
        int kind = pick(0, 99);
        if (!pending.isEmpty() && pick(0, 9) > 0) {
            int code = pending.charAt(0);
            pending = pending.substring(1);
            due(at + "append", () -> x.append(code), () -> model.append(code));
            due(at + "firstError", x::firstError, model::firstError);
        } else if (kind < 22) {
            takeIn(at);
        } else if (kind < 46) {
            machines(at);
        } else if (kind < 66) {
            handOut(at);
        } else if (kind < 76) {
            texts(at);
        } else if (kind < 84) {
            snapshots(at);
        } else {
            looks(at);
        }
    }

    private void takeIn(String at) {
        int colour = argument(0, flavour == 0 ? 1 : 3);
        int weight = argument(1, flavour == 1 ? 6 : 20);
        int time = argument(1, flavour == 2 ? 60 : 12);
        int within = argument(1, flavour == 2 ? 200 : 30);
        boolean isRush = pick(0, 3) == 0;
        due(at + "takeIn", () -> x.takeIn(colour, weight, time, within, isRush),
                () -> model.takeIn(colour, weight, time, within, isRush));
    }

    private void machines(String at) {
        int machine = argument(0, 1);
        int kind = pick(0, 19);
        if (kind < 9) {
            due(at + "load", () -> x.load(machine), () -> model.load(machine));
        } else if (kind < 15) {
            int minutes = argument(1, flavour == 3 ? 240 : 15);
            due(at + "pass", () -> x.pass(minutes), () -> model.pass(minutes));
        } else if (kind < 17) {
            int room = argument(10, 60);
            due(at + "room", () -> x.room(machine, room), () -> model.room(machine, room));
        } else if (kind < 18) {
            int setting = argument(0, 1);
            int value = argument(0, setting == 0 ? 9 : 1);
            due(at + "set", () -> x.set(setting, value), () -> model.set(setting, value));
        } else {
            int place = argument(0, 9);
            due(at + "rush", () -> x.rush(place), () -> model.rush(place));
        }
    }

    private void handOut(String at) {
        int shelf = argument(0, pick(0, 1) == 0 ? 2 : 7);
        int place = shelf >= 0 && shelf < 8 ? model.shelf(shelf) : -1;
        int ticket = place >= 0 && pick(0, 4) > 0 ? model.pileOf(place, 0) : argument(100, 130);
        // In one flavour the shelves are left to get full.
        if (flavour != 1 || pick(0, 3) == 0) {
            due(at + "handOut", () -> x.handOut(ticket, shelf), () -> model.handOut(ticket, shelf));
        }
    }

    private void texts(String at) {
        int kind = pick(0, 9);
        if (kind < 4) {
            StringBuilder text = new StringBuilder(pick(0, 2) == 0 ? ";" : "");
            for (int pile = pick(1, 4); pile > 0; pile--) {
                text.append((char) pick('a', 'd')).append(pick(1, 20)).append('/').append(pick(1, 60)).append('@')
                        .append(pick(1, 999)).append(pick(0, 2) == 0 ? "!" : "").append(pile == 1 ? "" : ";");
            }
            if (pick(0, 2) == 0) {
                text.setCharAt(pick(0, text.length() - 1), "abcde0123456789/@!;~".charAt(pick(0, 19)));
            }
            pending = text.toString();
        } else if (kind < 7) {
            due(at + "read", x::read, model::read);
        } else if (kind < 8) {
            due(at + "clearBuffer", x::clearBuffer, model::clearBuffer);
        } else {
            int code = argument(33, 126);
            due(at + "append", () -> x.append(code), () -> model.append(code));
        }
    }

    private void snapshots(String at) {
        int slot = argument(0, 1);
        int kind = pick(0, 9);
        if (kind < 2) {
            due(at + "keep", () -> x.keep(slot), () -> model.keep(slot));
        } else if (kind < 4) {
            due(at + "goBack", () -> x.goBack(slot), () -> model.goBack(slot));
        } else {
            due(at + "undo", x::undo, model::undo);
        }
    }

    private void looks(String at) {
        int a = argument(0, 9);
        int b = argument(0, 10);
        int c = argument(0, 1);
        int d = argument(0, 5);
        int e = argument(0, 7);
        due(at + "pileOf", () -> x.pileOf(a, b), () -> model.pileOf(a, b));
        due(at + "machineOf", () -> x.machineOf(c, d), () -> model.machineOf(c, d));
        due(at + "shelf", () -> x.shelf(e), () -> model.shelf(e));
        due(at + "count", () -> x.count(b), () -> model.count(b));
        due(at + "setting", () -> x.setting(c), () -> model.setting(c));
        due(at + "waiting", () -> x.waiting(a), () -> model.waiting(a));
        due(at + "ifLoaded", () -> x.ifLoaded(c), () -> model.ifLoaded(c));
        due(at + "endsIn", x::endsIn, model::endsIn);
        due(at + "fewestLate", () -> x.fewestLate(c), () -> model.fewestLate(c));
        due(at + "lateShare", () -> Double.doubleToLongBits(x.lateShare()),
                () -> Double.doubleToLongBits(model.lateShare()));
    }
}
