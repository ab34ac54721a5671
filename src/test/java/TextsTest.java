/** Promises 9 to 12: append, clearBuffer, firstError, read. */
public final class TextsTest {
    private static final String SIX_PILES = "a12/34@567;b12/34@567;c12/34@567;d12/34@567;a1/34@567;b1/2@3";

    public static void main(String[] args) {
        append();
        clearBuffer();
        firstError();
        read();
        Sentences.end(9, 10, 11, 12);
    }

    private static void append() {
        Sentences.test(9, "Appends a character to the buffer.", TextsTest::appendAppends);
        Sentences.test(9, "`code`: the character code, 33 to 126", TextsTest::appendTakesEachCode);
        Sentences.test(9, "Returns the new length of the buffer.", TextsTest::appendTellsTheLength);
        Sentences.test(9, "Throws `IllegalArgumentException` if code is not 33 to 126",
                TextsTest::appendThrowsOutOfRange);
        Sentences.test(9, "Throws `IllegalStateException` if the buffer has 60 characters",
                TextsTest::appendThrowsIfFull);
    }

    private static void clearBuffer() {
        Sentences.test(10, "Clears the buffer.", TextsTest::clearBufferClears);
        Sentences.test(10, "Returns the length that it had.", TextsTest::clearBufferTellsTheLength);
    }

    private static void firstError() {
        Sentences.test(11, "Finds the first syntax error of the buffer.", TextsTest::errorsByPlace);
        Sentences.test(11, "Returns the index of the first character that is a syntax error;",
                TextsTest::errorAtEitherEnd);
        Sentences.test(11, "the length of the buffer if there is none.", TextsTest::noErrorTellsTheLength);
    }

    private static void read() {
        Sentences.test(12, "Takes in the piles in the buffer as takeIn() does, one after the other,",
                TextsTest::readTakesPilesIn);
        Sentences.test(12, "up to the first one that is refused (and counted so),",
                TextsTest::readStopsAtTheFirstRefusal);
        Sentences.test(12, "and clears the buffer.", TextsTest::readClearsTheBuffer);
        Sentences.test(12, "Undoable, as one call, also if none is taken in.", TextsTest::readIsUndoable);
        Sentences.test(12, "Returns how many are taken in.", TextsTest::readTellsHowMany);
        Sentences.test(12, "Throws `IllegalArgumentException` if the buffer does not tell piles as a text",
                TextsTest::readThrows);
    }

    // ---- append, clearBuffer

    private static void appendAppends() {
        PileTickets x = Scenes.typed("b7/8@9");
        x.append('!');
        Digests.due("tells the codes in the buffer", x, 0, "b7/8@9!");
        Check.due("count(10)", x.count(10), 0);
        Check.due("read()", x.read(), 1);
        Check.due("pileOf(0, 1)", x.pileOf(0, 1), 1);
        Check.due("pileOf(0, 5)", x.pileOf(0, 5), 1);
    }

    private static void appendTakesEachCode() {
        PileTickets low = new PileTickets();
        PileTickets high = new PileTickets();
        StringBuilder lowText = new StringBuilder();
        StringBuilder highText = new StringBuilder();
        for (int code = 33; code <= 79; code++) {
            Check.due("append(" + code + ")", low.append(code), code - 32);
            Check.due("append(" + (code + 47) + ")", high.append(code + 47), code - 32);
            lowText.append((char) code);
            highText.append((char) (code + 47));
        }
        Digests.due("tells the codes 33 to 79", low, 0, lowText.toString());
        Digests.due("tells the codes 80 to 126", high, 0, highText.toString());
        for (int code : Check.outside(33, 126)) {
            Check.dueThrow(low, "append(" + code + ")", Check.ARGUMENT, () -> low.append(code));
        }
    }

    private static void appendTellsTheLength() {
        PileTickets x = new PileTickets();
        for (int length = 1; length <= 60; length++) {
            Check.due("append", x.append('a' + length % 5), length);
        }
        x.clearBuffer();
        Check.due("append to a cleared buffer", x.append('~'), 1);
        Check.due("append", x.append('~'), 2);
    }

    private static void appendThrowsOutOfRange() {
        // To a full buffer, too: the exception for the code is named first.
        for (PileTickets x : new PileTickets[] {new PileTickets(), Scenes.busy(), Scenes.typed("a".repeat(60))}) {
            for (int code : new int[] {32, 127, 0, -1, 10, 128, 97 + 256, 65536 + 97, Integer.MAX_VALUE, Integer.MIN_VALUE}) {
                Check.dueThrow(x, "append(" + code + ")", Check.ARGUMENT, () -> x.append(code));
            }
        }
    }

    private static void appendThrowsIfFull() {
        PileTickets x = Scenes.typed("a".repeat(59));
        Check.due("append of the last that the buffer takes", x.append('~'), 60);
        for (int code : new int[] {33, 'a', 126}) {
            Check.dueThrow(x, "append(" + code + ")", Check.STATE, () -> x.append(code));
        }
        Check.due("firstError()", x.firstError(), 1);
        Check.due("clearBuffer()", x.clearBuffer(), 60);
        Check.due("append", x.append('a'), 1);
    }

    private static void clearBufferClears() {
        PileTickets x = Scenes.typed("e!");
        x.clearBuffer();
        Digests.due("of an empty buffer", x, 0, "");
        Check.due("firstError()", x.firstError(), 0);
        Check.due("count(10)", x.count(10), 0);
        Scenes.type(x, "a1/1@1");
        Check.due("firstError() behind the text before", x.firstError(), 6);
        Check.due("read()", x.read(), 1);
    }

    private static void clearBufferTellsTheLength() {
        PileTickets x = new PileTickets();
        Check.due("clearBuffer() of an empty buffer", x.clearBuffer(), 0);
        x.append('a');
        Check.due("clearBuffer()", x.clearBuffer(), 1);
        Check.due("clearBuffer() again", x.clearBuffer(), 0);
        Scenes.type(x, "~".repeat(60));
        Check.due("clearBuffer() of a full buffer", x.clearBuffer(), 60);
    }

    // ---- firstError

    private static void errorAt(String text, int due) {
        PileTickets x = Scenes.typed(text);
        long before = x.digest();
        Check.due("firstError() of " + text, x.firstError(), due);
        Check.due("firstError() of " + text + " again", x.firstError(), due);
        Check.due("digest() behind firstError() of " + text, x.digest(), before);
    }

    private static void errorsByPlace() {
        // In each the last character is the error.
        String[] wrongTexts = {"e", "A", "`", "1", "/", "@", "!", ";", "aa", "a/", "a0", "a21", "a29", "a30", "a100", "a200",
            "a1@", "a1!", "a1;", "a1/0", "a1/61", "a1/70", "a1/600", "a1/@", "a1//", "a1/1/", "a1/1!", "a1/1;",
            "a1/1@0", "a1/1@@", "a1/1@!", "a1/1@;", "a1/1@/", "a1/1@1000", "a1/1@9999", "a1/1@1@", "a1/1@1/",
            "a1/1@1a", "a1/1@1!!", "a1/1@1!1", "a1/1@1!a", "a1/1@1;;", "a1/1@1;e", "a1/1@1;1", "a1/1@1;!", "a1/1@1,",
            "a:", "a1:", "a1/:", "a1/1@:", "a1.", "a1/1@1:", "a1/1@1<"};
        for (String text : wrongTexts) {
            errorAt(text, text.length() - 1);
            // What follows the first error is no matter.
            errorAt(text + "!", text.length() - 1);
            errorAt(text + ";a1/1@1", text.length() - 1);
            errorAt("b2/3@4;" + text, 7 + text.length() - 1);
        }
    }

    private static void errorAtEitherEnd() {
        errorAt("e", 0);
        errorAt("~" + "a1/1@1;".repeat(8), 0);
        errorAt("!".repeat(60), 0);
        errorAt("aa1/1@1", 1);
        errorAt("a1/1@1;".repeat(8) + "d20a", 59);
        errorAt("a1/1@1;".repeat(8) + "d21/", 58);
        errorAt("a12/34@567;b12/34@567;c12/34@567;d12/34@567;a12/34@567;b12/@", 59);
    }

    private static void noErrorTellsTheLength() {
        errorAt("", 0);
        String whole = "d20/60@999!;a1/1@1";
        for (int length = 0; length <= whole.length(); length++) {
            errorAt(whole.substring(0, length), length);
        }
        String[] rightTexts = {"a", "b1", "c2", "d9/", "a10", "a19/59@1", "a20/6@10", "a1/60@100!", "a1/1@1;", "a1/1@1!;",
            "a1/1@1;b"};
        for (String text : rightTexts) {
            errorAt(text, text.length());
        }
        for (int piles = 0; piles < 8; piles++) {
            String text = "a1/1@1;".repeat(piles) + "a1/1@";
            errorAt(text, text.length());
        }
        // A full buffer whose text would only go on beyond it is no error.
        errorAt(SIX_PILES, 60);
        errorAt("a12/34@567;b12/34@567;c12/34@567;d12/34@567;a12/34@567;b1/6@", 60);
        errorAt("a12/34@567;b12/34@567;c12/34@567;d12/34@567;a12/34@567!;b1/6", 60);
        errorAt("a1/1@1;".repeat(8) + "d20/", 60);
    }

    // ---- read

    private static void readTakesPilesIn() {
        PileTickets x = new PileTickets();
        x.pass(50);
        Scenes.type(x, "d20/60@999!;b7/8@9");
        x.read();
        PileTickets y = new PileTickets();
        y.pass(50);
        y.takeIn(3, 20, 60, 999, true);
        y.takeIn(1, 7, 8, 9, false);
        Check.dueText("the room", Scenes.all(x), Scenes.all(y));
        Check.due("count(9)", x.count(9), 0);
        rushesAndPlacesOfEachPile();
        Scenes.type(x, "a1/1@1");
        x.read();
        Check.due("pileOf(2, 0)", x.pileOf(2, 0), 102);
    }

    private static void rushesAndPlacesOfEachPile() {
        PileTickets x = Scenes.onShelves(4);
        x.handOut(102, 2);
        x.handOut(100, 0);
        Scenes.type(x, "a1/1@1!;b1/1@1;c1/1@1!;d1/1@1");
        x.read();
        int[] places = {0, 2, 4, 5};
        for (int pile = 0; pile < 4; pile++) {
            Check.due("pileOf(.., 0)", x.pileOf(places[pile], 0), 104 + pile);
            Check.due("pileOf(.., 1)", x.pileOf(places[pile], 1), pile);
            Check.due("pileOf(.., 4)", x.pileOf(places[pile], 4), 2);
            Check.due("pileOf(.., 5)", x.pileOf(places[pile], 5), 1 - pile % 2);
        }
    }

    private static void readStopsAtTheFirstRefusal() {
        PileTickets x = Scenes.waiting(8);
        Scenes.type(x, "a1/1@1;b2/2@2;c3/3@3;d4/4@4");
        x.read();
        Check.due("count(1)", x.count(1), 10);
        Check.due("count(5)", x.count(5), 10);
        Check.due("count(9) of two piles that found no place", x.count(9), 1);
        Check.due("pileOf(8, 1)", x.pileOf(8, 1), 0);
        Check.due("pileOf(9, 1)", x.pileOf(9, 1), 1);
        PileTickets full = Scenes.waiting(10);
        Scenes.type(full, "c3/3@3;d4/4@4");
        Check.dueRefused(full, "read() in a full house", full::read, 0);
        PileTickets fits = Scenes.waiting(8);
        Scenes.type(fits, "c3/3@3;d4/4@4");
        fits.read();
        Check.due("count(1) of a text that just fits", fits.count(1), 10);
        Check.due("count(9) of a text that just fits", fits.count(9), 0);
    }

    private static void readClearsTheBuffer() {
        PileTickets x = Scenes.typed("a1/1@1;b2/2@2");
        x.read();
        Check.due("clearBuffer()", x.clearBuffer(), 0);
        PileTickets partly = Scenes.waiting(9);
        Scenes.type(partly, "a1/1@1;b2/2@2");
        partly.read();
        Check.due("clearBuffer() of a text taken in to a part", partly.clearBuffer(), 0);
        PileTickets full = Scenes.waiting(10);
        Scenes.type(full, "a1/1@1");
        full.read();
        Check.due("clearBuffer() of a text refused", full.clearBuffer(), 0);
    }

    private static void readIsUndoable() {
        PileTickets x = Scenes.waiting(1);
        Scenes.type(x, "a1/1@1;b2/2@2;c3/3@3!");
        Check.due("read()", x.read(), 3);
        Check.due("count(10)", x.count(10), 2);
        Scenes.type(x, "d4");
        Check.due("undo()", x.undo(), 1);
        Check.due("count(1)", x.count(1), 1);
        Check.due("count(5)", x.count(5), 1);
        Check.due("clearBuffer() of what was typed since", x.clearBuffer(), 2);
        Check.due("takeIn", x.takeIn(0, 1, 1, 1, false), 101);
        PileTickets full = Scenes.withOneSaved(Scenes.waiting(10));
        Scenes.type(full, "a1/1@1");
        Check.due("read() in a full house", full.read(), 0);
        Check.due("count(10)", full.count(10), 2);
        Check.due("count(9)", full.count(9), 1);
        Check.due("undo()", full.undo(), 1);
        Check.due("count(9)", full.count(9), 0);
        Check.due("clearBuffer(), which undo() does not fill again", full.clearBuffer(), 0);
        PileTickets partly = Scenes.withOneSaved(Scenes.waiting(9));
        Scenes.type(partly, "a1/1@1;a1/1@1;a1/1@1");
        String before = Scenes.all(partly);
        Check.due("read() to a part", partly.read(), 1);
        Check.due("undo()", partly.undo(), 1);
        Check.due("count(9)", partly.count(9), 0);
        Check.dueText("the room after undo()", Scenes.all(partly), before);
    }

    private static void readTellsHowMany() {
        for (int piles = 1; piles <= 8; piles++) {
            PileTickets x = Scenes.typed("a1/1@1" + ";a1/1@1".repeat(piles - 1));
            Check.due("read()", x.read(), piles);
            Check.due("count(5)", x.count(5), piles);
        }
        for (int here = 7; here <= 10; here++) {
            PileTickets x = Scenes.waiting(here);
            Scenes.type(x, "a1/1@1;b2/2@2;c3/3@3");
            Check.due("read() with " + here + " piles in the house", x.read(), 10 - here);
        }
        Check.due("read() of a full buffer", Scenes.typed(SIX_PILES).read(), 6);
    }

    private static void readThrows() {
        String[] wrong = {"", "a", "a1", "a1/", "a1/1", "a1/1@", "a1/1@1;", "a1/1@1!;", "a1/1@1!!", "e1/1@1", "a1/1@1000",
            "a1/1@1;b", "a1/1@1;b1/1@", "a0/1@1", "a1/1@1x", ";a1/1@1", "a1/1@1;;a1/1@1", "a01/1@1", "a21/1@1", "a1/61@1",
            "a1/1@0", SIX_PILES.substring(0, 59) + "@", SIX_PILES.substring(0, 59) + "!", "a1/1@1;".repeat(8)};
        for (String text : wrong) {
            // In a full house also, where no pile would be taken in.
            for (PileTickets x : new PileTickets[] {new PileTickets(), Scenes.waiting(10)}) {
                Scenes.type(x, text);
                Check.dueThrow(x, "read() of " + text, Check.ARGUMENT, x::read);
                Check.due("clearBuffer()", x.clearBuffer(), text.length());
            }
        }
    }
}
