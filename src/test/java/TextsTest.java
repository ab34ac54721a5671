/** Promises 9 to 12: append, clearBuffer, firstError, read. */
public final class TextsTest {
    public static void main(String[] args) {
        appendAndClear();
        appendThrows();
        errorsByPlace();
        errorIsSeenInALongText();
        readTakesPilesIn();
        readTakesAFullBuffer();
        readGivesEachPileItsOwnRush();
        readStopsAtTheFirstRefusal();
        readThrows();
        Check.end();
    }

    private static void appendAndClear() {
        PileTickets x = new PileTickets();
        Check.due("append", x.append('a'), 1);
        Check.due("append", x.append(33), 2);
        Check.due("append", x.append(126), 3);
        Check.due("count(10)", x.count(10), 0);
        Check.due("clearBuffer()", x.clearBuffer(), 3);
        Check.due("clearBuffer()", x.clearBuffer(), 0);
        Check.due("append", x.append('b'), 1);
        Check.due("count(10)", x.count(10), 0);
        for (int length = 2; length <= 60; length++) {
            Check.due("append", x.append(126), length);
        }
        Check.due("clearBuffer()", x.clearBuffer(), 60);
    }

    private static void appendThrows() {
        PileTickets x = new PileTickets();
        int[] wrong = {32, 127, 0, -1, 10, 97 + 256, Integer.MAX_VALUE, Integer.MIN_VALUE};
        for (int code : wrong) {
            Check.dueThrow(x, "append(" + code + ")", Check.ARGUMENT, () -> x.append(code));
        }
        for (int at = 0; at < 60; at++) {
            x.append('a');
        }
        Check.dueThrow(x, "append to a full buffer", Check.STATE, () -> x.append('a'));
        for (int code : wrong) {
            Check.dueThrow(x, "append(" + code + ") to a full buffer", Check.ARGUMENT, () -> x.append(code));
        }
    }

    private static void errorAt(String text, int due) {
        PileTickets x = new PileTickets();
        Check.type(x, text);
        long before = x.digest();
        Check.due("firstError() of " + text, x.firstError(), due);
        Check.due("firstError() again", x.firstError(), due);
        Check.due("digest()", x.digest(), before);
    }

    private static void errorsByPlace() {
        String whole = "d20/60@999!;a1/1@1";
        for (int length = 0; length <= whole.length(); length++) {
            errorAt(whole.substring(0, length), length);
        }
        String[] rightTexts = {"a", "b1", "c2", "d9/", "a10", "a19/59@1", "a20/6@10", "a1/60@100!", "a1/1@1;",
            "a1/1@1!;", "a1/1@1;b"};
        for (String text : rightTexts) {
            errorAt(text, text.length());
        }
        // In each the last character is the error.
        String[] wrongTexts = {"e", "A", "`", "1", "/", "@", "!", ";", "aa", "a/", "a0", "a21", "a29", "a30", "a100", "a200",
            "a1@", "a1!", "a1;", "a1/0", "a1/61", "a1/70", "a1/600", "a1/@", "a1//", "a1/1/", "a1/1!", "a1/1;",
            "a1/1@0", "a1/1@@", "a1/1@!", "a1/1@;", "a1/1@/", "a1/1@1000", "a1/1@9999", "a1/1@1@", "a1/1@1/",
            "a1/1@1a", "a1/1@1!!", "a1/1@1!1", "a1/1@1!a", "a1/1@1;;", "a1/1@1;e", "a1/1@1;1", "a1/1@1;!", "a1/1@1,",
            "a:", "a1:", "a1/:", "a1/1@:", "a1.", "a1/1@1:", "a1/1@1<"};
        for (String text : wrongTexts) {
            errorAt(text, text.length() - 1);
            errorAt(text + "!", text.length() - 1);
            errorAt("b2/3@4;" + text, 7 + text.length() - 1);
        }
    }

    private static void errorIsSeenInALongText() {
        StringBuilder text = new StringBuilder();
        for (int pile = 0; pile < 8; pile++) {
            text.append("a1/1@");
            errorAt(text.toString(), text.length());
            text.append("1;");
        }
        errorAt("a12/34@567;b12/34@567;c12/34@567;d12/34@567;a12/34@567;b1/6@", 60);
        errorAt("a12/34@567;b12/34@567;c12/34@567;d12/34@567;a12/34@567;b12/@", 59);
    }

    private static void readTakesPilesIn() {
        PileTickets x = new PileTickets();
        x.pass(50);
        Check.type(x, "d20/60@999!;b7/8@9");
        Check.due("read()", x.read(), 2);
        long[][] due = {{100, 3, 20, 60, 1049, 1}, {101, 1, 7, 8, 59, 0}};
        for (int place = 0; place < 2; place++) {
            for (int what = 0; what < 6; what++) {
                Check.due("pileOf(" + place + ", " + what + ")", x.pileOf(place, what), due[place][what]);
            }
        }
        Check.due("clearBuffer()", x.clearBuffer(), 0);
        Check.due("count(5)", x.count(5), 2);
        Check.due("count(9)", x.count(9), 0);
        Check.due("count(10)", x.count(10), 2);
        Check.type(x, "a1/1@1");
        Check.due("undo()", x.undo(), 1);
        Check.due("count(1)", x.count(1), 0);
        Check.due("clearBuffer()", x.clearBuffer(), 6);
        Check.due("takeIn", x.takeIn(0, 1, 1, 1, false), 100);
    }

    private static void readTakesAFullBuffer() {
        PileTickets x = new PileTickets();
        Check.type(x, "a12/34@567;b12/34@567;c12/34@567;d12/34@567;a1/34@567;b1/2@3");
        Check.dueThrow(x, "append to a full buffer", Check.STATE, () -> x.append('!'));
        Check.due("firstError()", x.firstError(), 60);
        Check.due("read()", x.read(), 6);
        Check.due("pileOf(5, 4)", x.pileOf(5, 4), 3);
        Check.due("firstError()", x.firstError(), 0);
    }

    private static void readGivesEachPileItsOwnRush() {
        PileTickets x = new PileTickets();
        Check.type(x, "a1/1@1!;a1/1@1;a1/1@1!;a1/1@1");
        Check.due("read()", x.read(), 4);
        for (int place = 0; place < 4; place++) {
            Check.due("pileOf(" + place + ", 5)", x.pileOf(place, 5), place % 2 == 0 ? 1 : 0);
        }
    }

    private static void readStopsAtTheFirstRefusal() {
        PileTickets x = new PileTickets();
        for (int pile = 0; pile < 8; pile++) {
            x.takeIn(0, 1, 1, 1, false);
        }
        Check.type(x, "a1/1@1;b2/2@2;c3/3@3;d4/4@4");
        Check.due("read()", x.read(), 2);
        Check.due("count(1)", x.count(1), 10);
        Check.due("count(9) counts one refusal", x.count(9), 1);
        Check.due("pileOf(9, 1)", x.pileOf(9, 1), 1);
        Check.due("clearBuffer()", x.clearBuffer(), 0);
        Check.type(x, "c3/3@3;d4/4@4");
        Check.due("read()", x.read(), 0);
        Check.due("count(9)", x.count(9), 2);
        Check.due("count(10)", x.count(10), 6);
        Check.due("clearBuffer()", x.clearBuffer(), 0);
        Check.due("undo()", x.undo(), 5);
        Check.due("count(9)", x.count(9), 1);
        Check.due("undo()", x.undo(), 4);
        Check.due("count(1)", x.count(1), 8);
        Check.due("count(9)", x.count(9), 0);
        Check.type(x, "c3/3@3;d4/4@4");
        Check.due("read() up to the last place", x.read(), 2);
        Check.due("count(9)", x.count(9), 0);
    }

    private static void readThrows() {
        String[] wrong = {"", "a", "a1", "a1/", "a1/1", "a1/1@", "a1/1@1;", "a1/1@1!;", "a1/1@1!!", "e1/1@1", "a1/1@1000",
            "a1/1@1;b", "a1/1@1;b1/1@", "a0/1@1", "a1/1@1x"};
        for (String text : wrong) {
            PileTickets x = new PileTickets();
            Check.type(x, text);
            Check.dueThrow(x, "read() of " + text, Check.ARGUMENT, x::read);
            Check.due("clearBuffer()", x.clearBuffer(), text.length());
            Check.due("count(10)", x.count(10), 0);
        }
        PileTickets full = new PileTickets();
        for (int pile = 0; pile < 10; pile++) {
            full.takeIn(0, 1, 1, 1, false);
        }
        Check.type(full, "a1/1@");
        Check.dueThrow(full, "read() in a full house", Check.ARGUMENT, full::read);
    }
}
