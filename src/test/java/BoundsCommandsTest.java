/** Promises 28 to 30: each sentence that names a boundary, in a test of its own, with the document's words. */
public final class BoundsCommandsTest {
    private static final int LOW = Twin.LOW;
    private static final int HIGH = Twin.HIGH;
    private static final int NONE = CrateTour.NONE;
    private static final int MOST = 150;

    public static void main(String[] args) {
        Expect.all(BoundsCommandsTest.class);
        Expect.done("BoundsCommandsTest");
    }

    private static Twin.Scene withText(String text) {
        return () -> {
            CrateTour t = Scenes.busy();
            t.clearCommands();
            Scenes.type(t, text);
            return t;
        };
    }

    // ---- type and clearCommands

    /** "value: 0 to 127", "if value is out of range" */
    private static void typeValue() {
        Twin.refuses("type", Expect.ARGUMENT, Scenes::busy, CrateTour::type, -1, 128, 256 + ';', LOW, HIGH);
        Twin.refuses("type into an empty text", Expect.ARGUMENT, CrateTour::new, CrateTour::type, -1, 128);
        for (int value = 0; value < 128; value++) {
            CrateTour t = new CrateTour();
            Expect.same("type(" + value + ")", t.type(value), 1);
            Expect.same("runCommands() behind it", t.runCommands(), value == ' ' ? 0 : -10);
        }
    }

    /** "Returns the length of the text", "if the text has 150 bytes": the 150th is taken, the next one is not. */
    private static void typeUntilTheTextIsFull() {
        CrateTour t = new CrateTour();
        for (int length = 1; length <= MOST; length++) {
            Expect.same("type(' ')", t.type(' '), length);
        }
        Expect.raises("type(' ') into a full text", Expect.STATE, () -> t.type(' '));
        Twin.refuses("type into a full text", Expect.STATE, Scenes::full, CrateTour::type, 0, ' ', ';', 127);
        CrateTour shorter = withText(" ".repeat(149)).make();
        Expect.same("type(' ') into a text of 149", shorter.type(' '), MOST);
    }

    /** Of a full text and a value out of range, the range comes first. */
    private static void typeOutOfRangeIntoAFullText() {
        Twin.refuses("type into a full text", Expect.ARGUMENT, Scenes::full, CrateTour::type, -1, 128, LOW, HIGH);
    }

    /** A byte that is typed saves no state; a refused one neither. */
    private static void typeSavesNothing() {
        CrateTour t = Scenes.busy();
        t.type(' ');
        Expect.same("undo() behind type()", t.undo(), 1);
    }

    /** "Empties the command text", "Returns the length that it had": none, one byte, 150. */
    private static void clearCommandsReturnsTheLength() {
        for (int length : new int[] {0, 1, 149, 150}) {
            CrateTour t = withText("x".repeat(length)).make();
            Expect.same("clearCommands()", t.clearCommands(), length);
            Expect.same("clearCommands() again", t.clearCommands(), 0);
            Expect.same("runCommands() of the empty text", t.runCommands(), 0);
            Expect.same("type('w') behind it", t.type('w'), 1);
        }
    }

    /** clearCommands() is not marked "undoable". */
    private static void clearCommandsSavesNothing() {
        CrateTour t = Scenes.busy();
        t.clearCommands();
        Expect.same("undo() behind clearCommands()", t.undo(), 1);
        Expect.same("length of the text behind undo()", t.clearCommands(), 0);
    }

    // ---- faults

    /** The fault is told, and nothing is done, no state saved; alone, and with a command in front. */
    private static void fault(String text, int index) {
        fault("", text, index);
        fault("wait 1;", text, index);
        fault("  close  09 ; ", text, index);
    }

    private static void fault(String front, String text, int index) {
        String whole = front + text;
        CrateTour t = withText(whole).make();
        long before = t.digest();
        Expect.same("runCommands() of '" + whole + "'", t.runCommands(), -10 - front.length() - index);
        Expect.same("digest() behind '" + whole + "'", t.digest(), before);
    }

    /** The text has no fault, and so many commands are carried out. */
    private static void run(String text, int done) {
        CrateTour t = withText(text).make();
        Expect.same("runCommands() of '" + text + "'", t.runCommands(), done);
        Expect.same("undo() behind '" + text + "'", t.undo(), 2);
    }

    /** "a text that is empty, or has spaces alone, has no fault" */
    private static void textWithoutCommands() {
        for (int length : new int[] {0, 1, 2, MOST - 1, MOST}) {
            run(" ".repeat(length), 0);
        }
    }

    /** "a word of letters a to z": the bytes on both sides of these end a word, or cannot begin one. */
    private static void wordOfLetters() {
        for (char c : new char[] {'`', '{', '@', '[', 'A', 'Z', 'O', '0', '_', (char) 0, (char) 127}) {
            fault(c + "open 0;", 0);
            fault("open" + c + " 0;", 4);
            fault("op" + c + "en 0;", 0);
            fault(String.valueOf(c), 0);
        }
        fault("Open 0;", 0);
        fault("opeN 0;", 0);
        fault("OPEN 0;", 0);
        fault("aopen 0;", 0);
        fault("zopen 0;", 0);
        fault("opena 0;", 0);
        fault("openz 0;", 0);
    }

    /** "each of one to four digits": none, one, four and five; the bytes on both sides of the digits are none. */
    private static void numberOfDigits() {
        fault("open ;", 5);
        run("close 9;", 1);
        run("close 09;", 1);
        run("close 009;", 1);
        run("close 0009;", 1);
        run("wait 0240;", 1);
        fault("open 12345;", 9);
        fault("open 1234567890;", 9);
        fault("nest 12345 1;", 9);
        fault("nest 1 12345;", 11);
        fault("escort 1 2 12345;", 15);
        fault("open /;", 5);
        fault("open :;", 5);
        fault("open 1/;", 6);
        fault("open 1:;", 6);
        fault("open -1;", 5);
        fault("open +1;", 5);
        fault("open 1.0;", 6);
    }

    /** "(zeros in front are allowed; a fifth digit cannot stand)": also if all are noughts. */
    private static void numberOfZeros() {
        run("wait 0001;", 1);
        run("wait 0000;", 0);
        fault("wait 00000;", 9);
        fault("wait 00001;", 9);
        CrateTour t = withText("wait 0010;wait 010;wait 10;").make();
        t.runCommands();
        Expect.same("time behind three times 10", t.whole(0), 80);
    }

    /** "with at least one space (byte 32) in front": none, one, many; no other byte is one. */
    private static void spaceInFrontOfANumber() {
        fault("open0;", 4);
        fault("open;", 4);
        fault("nest0 1;", 4);
        fault("nest 0;", 6);
        fault("nest 0,1;", 6);
        fault("pack 7;", 6);
        run("pack 7 9;", 1);
        run("pack   7     9;", 1);
        run("wait" + " ".repeat(MOST - 6) + "1;", 1);
        for (int value : new int[] {0, '\t', '\n', 31, 33, 127}) {
            fault("wait" + (char) value + "1;", 4);
            fault("wait " + (char) value + "1;", 5);
        }
    }

    /** "and a semicolon": neither its neighbours nor the end of the text are one; a second one cannot stand. */
    private static void semicolonBehindEach() {
        fault("wait 1", 6);
        fault("wait 1:", 6);
        fault("wait 1<", 6);
        fault("wait 1 wait 1;", 7);
        fault("wait 1;;", 7);
        fault("wait 1; ;", 8);
        fault(";", 0);
        fault("  ;", 2);
        fault("wait;", 4);
        fault("wait ;", 5);
        run("wait 1;wait 1;", 2);
    }

    /** "Spaces may also stand in front of a command, in front of a semicolon, and at the end." */
    private static void spacesBetween() {
        run("wait 1;", 1);
        run(" wait 1;", 1);
        run("wait 1 ;", 1);
        run("wait 1; ", 1);
        run("   wait 1   ;   wait 1   ;   ", 2);
        fault("wa it 1;", 0);
        fault("wait 1 2;", 7);
        run(" ".repeat(MOST - 7) + "wait 1;", 1);
        run("wait 1;" + " ".repeat(MOST - 7), 1);
        run("wait 1" + " ".repeat(MOST - 7) + ";", 1);
    }

    /** "The words are: ..": each one with its numbers, with one less and with one more. */
    private static void wordsAndTheirNumbers() {
        String[] words = {"open", "close", "nest", "out", "pack", "unpack", "send", "escort", "wait"};
        int[] numbers = {1, 1, 2, 1, 2, 1, 2, 3, 1};
        for (int i = 0; i < words.length; i++) {
            String whole = words[i] + " 500".repeat(numbers[i]);
            String less = words[i] + " 500".repeat(numbers[i] - 1);
            run(whole + ";", 0);
            run("wait 1;" + whole + " ; ", 1);
            fault(less + ";", less.length());
            fault(less + " ;", less.length() + 1);
            fault(less, less.length());
            fault(whole, whole.length());
            fault(whole + " 500;", whole.length() + 1);
            fault(words[i] + "x 500;", 0);
            fault(words[i].substring(1) + " 500;", 0);
            fault("x" + words[i].substring(1) + " 500;", 0);
            fault(words[i].substring(0, words[i].length() - 1) + "x 500;", 0);
        }
        for (String word : new String[] {"takeout", "advance", "undo", "run", "o", "s", "nestle", "a", "z"}) {
            fault(word + " 1;", 0);
            fault(word, 0);
        }
    }

    /** "or the length of the text if it ends too soon": behind each byte of a command. */
    private static void textEndsTooSoon() {
        String text = "escort 12  3 0004 ;";
        for (int length = 1; length < text.length(); length++) {
            // A word that is cut off is not one of these.
            fault(text.substring(0, length), length < 6 ? 0 : length);
        }
        fault("", " ".repeat(MOST - 6) + "wait 1", MOST);
        fault("", " ".repeat(MOST - 4) + "wait", MOST);
        fault("", "wait" + " ".repeat(MOST - 4), MOST);
    }

    /** "A word that is not one of these is at fault with its first byte, found when the word is complete" */
    private static void wordIsAtFaultWithItsFirstByte() {
        fault("ope", 0);
        fault("ope 1;", 0);
        fault("ope1;", 0);
        fault("ope;", 0);
        fault("ope#", 0);
        fault("opens 1;", 0);
        fault("   ope 1;", 3);
        fault("wait 1;ope 1;", 7);
        fault("wait 1x;", 6);
        fault("wait x;", 5);
        fault("", "x".repeat(MOST), 0);
        fault("", " " + "x".repeat(MOST - 1), 1);
        fault("", " ".repeat(MOST - 1) + "x", MOST - 1);
        fault("", " ".repeat(MOST - 3) + "wai", MOST - 3);
    }

    /** "the index of the first byte that cannot stand": of two faults the first one is told. */
    private static void faultIsTheFirstOne() {
        fault("wait 12345; ope 1;", 9);
        fault("ope 12345;", 0);
        fault("wait;; 1", 4);
        fault("wait 1;#;#", 7);
        fault("open ;#", 5);
        fault("open ; open ;", 5);
        fault("nest 1 ;#", 7);
        fault("nest 1;#", 6);
        fault("wait;#", 4);
        fault("wait 1 wait 2;#", 7);
        fault("wait 12345;#", 9);
        fault("open 1 2; ope", 7);
    }

    /** "(That a number is out of its range is no fault.)": the run stops there, and saves its state. */
    private static void numberOutOfItsRangeIsNoFault() {
        String[] texts = {"wait 0;", "wait 241;", "wait 9999;", "open 10;", "open 12;", "open 9999;", "close 9999;",
            "nest 0 9999;", "nest 9999 9;", "out 9999;", "pack 9999 9;", "pack 7 9999;", "unpack 9999;",
            "send 9999 1;", "send 0 9999;", "escort 0 1 9999;", "escort 0 9999 0;", "escort 9999 1 0;"};
        for (String text : texts) {
            run(text, 0);
            run("wait 1;" + text + "wait 1;", 1);
        }
    }

    // ---- runs

    /** "if it has a fault, nothing is done", "-10 minus the fault": from index 0 to the length of a full text. */
    private static void runWithAFault() {
        Twin.tells("run", withText("#"), CrateTour::runCommands, -10);
        Twin.tells("run", withText("wait 1;close 9;#"), CrateTour::runCommands, -25);
        Twin.tells("run", withText("wait 1;close 9;wait"), CrateTour::runCommands, -29);
        Twin.tells("run", withText("wait 1;".repeat(21) + "  #"), CrateTour::runCommands, -159);
        Twin.tells("run", withText("wait 1;".repeat(20) + "wait 00001"), CrateTour::runCommands, -159);
        Twin.tells("run", withText("wait 1;".repeat(20) + "wait    10"), CrateTour::runCommands, -160);
    }

    /** "until one of them would throw an exception, which is not thrown": each kind, first, in the middle and last. */
    private static void runUntilAnException() {
        String[] wrong = {"open 2", "open 1", "open 8", "open 10", "close 0", "close 2", "close 10", "nest 0 0",
            "nest 9 2", "nest 0 7", "nest 10 0", "out 0", "out 4", "out 1", "out 10", "pack 0 9", "pack 7 0",
            "pack 7 7", "pack 9 0", "unpack 7", "unpack 0", "unpack 9", "send 9 1", "send 3 1", "send 5 0",
            "send 0 0", "send 0 2", "send 0 4", "escort 0 1 1", "escort 0 1 2", "escort 0 1 3", "wait 0", "wait 241"};
        for (String command : wrong) {
            run(command + ";", 0);
            run(command + ";wait 1;", 0);
            run("wait 1;wait 1;" + command + ";wait 1;", 2);
            run("wait 1;wait 1;" + command + ";", 2);
        }
        run("wait 1;wait 1;", 2);
    }

    /** "those before it stay done, and they alone count": what comes behind is not done. */
    private static void runKeepsWhatWasDoneBefore() {
        CrateTour t = withText("wait 1;close 9;open 9;close 9;close 9;open 9;wait 9;").make();
        Expect.same("run", t.runCommands(), 4);
        Expect.same("time", t.whole(0), 51);
        Expect.same("crate 9 is open", t.crate(9, 1), 0);
    }

    /** Each command does what its call does, with the numbers at their places. */
    private static void runDoesWhatTheCallsDo() {
        does("open 0;", t -> t.open(0));
        does("close 4;", t -> t.close(4));
        does("nest 0 9;", t -> t.nest(0, 9));
        does("nest 8 7;", t -> t.nest(8, 7));
        does("out 3;", t -> t.takeOut(3));
        does("pack 7 9;", t -> t.pack(7, 9));
        does("pack 8 7;", t -> t.pack(8, 7));
        does("unpack 2;", t -> t.unpack(2));
        does("send 0 1;", t -> t.send(0, 1, NONE));
        does("escort 0 1 0;", t -> t.send(0, 1, 0));
        does("escort 8 2 1;", t -> t.send(8, 2, 1));
        does("wait 1;", t -> t.advance(1));
        does("wait 240;", t -> t.advance(240));
    }

    private static void does(String text, Twin.Ask call) {
        Twin.Scene byText = () -> {
            CrateTour t = withText(text).make();
            Expect.same("run of '" + text + "'", t.runCommands(), 1);
            return t;
        };
        Twin.Scene byCall = () -> {
            CrateTour t = withText(text).make();
            call.of(t);
            return t;
        };
        Expect.isTrue("'" + text + "' does what its call does",
                Twin.everything(byText).equals(Twin.everything(byCall)));
    }

    /** "Returns the number of commands that were carried out": none, and as many as the text takes. */
    private static void runReturnsTheNumber() {
        run("", 0);
        run("wait 1;".repeat(21), 21);
        run("wait 1;".repeat(21) + "   ", 21);
        run("out 3;close 4;out 4;nest 4 9;out 4;nest 3 9;out 3;nest 3 2;out 3;nest 3 2;open 3;close 3;out 3;"
                + "nest 3 2;out 3;nest 3 9;out 3;nest 3 2;out 3;", 19);
    }

    /** "A run saves one state, the one from before it; its commands save none" */
    private static void runSavesOneState() {
        Twin.isUndoable("run of three", withText("wait 1;close 9;send 0 1;"), CrateTour::runCommands, 3);
        Twin.isUndoable("run that stops", withText("wait 1;close 9;close 9;wait 1;"), CrateTour::runCommands, 2);
        CrateTour t = withText("wait 1;".repeat(21)).make();
        t.advance(1);
        t.runCommands();
        Expect.same("undo() of the run", t.undo(), 3);
        Expect.same("time", t.whole(0), 51);
        Expect.same("undo() of the call before it", t.undo(), 2);
        Expect.same("time", t.whole(0), 50);
    }

    /** "Undoable, if it has no fault": also if nothing is carried out. */
    private static void runOfNothingIsUndoable() {
        Twin.isUndoable("run of an empty text", withText(""), CrateTour::runCommands, 0);
        Twin.isUndoable("run of spaces", withText(" ".repeat(150)), CrateTour::runCommands, 0);
        Twin.isUndoable("run whose first command throws", withText("open 2;wait 1;"), CrateTour::runCommands, 0);
    }

    /** A run on a full stack drops one state, and one with a fault none. */
    private static void runOnAFullStack() {
        CrateTour t = new CrateTour();
        for (int i = 0; i < 4; i++) {
            t.advance(1);
        }
        Scenes.type(t, "wait 5;wait 5");
        Expect.same("run with a fault", t.runCommands(), -23);
        t.type(';');
        Expect.same("run", t.runCommands(), 2);
        int[] times = {4, 3, 2, 1};
        for (int i = 0; i < 4; i++) {
            Expect.same("undo()", t.undo(), 3 - i);
            Expect.same("time", t.whole(0), times[i]);
        }
        Expect.raises("undo() of the state that was dropped", Expect.STATE, t::undo);
    }

    /** "which stays as it is": behind a run, behind one that stops and behind one with a fault. */
    private static void runKeepsTheText() {
        for (String text : new String[] {"wait 5;", "wait 5;wait 0;", "wait 5;wait"}) {
            CrateTour t = withText(text).make();
            int first = t.runCommands();
            Expect.same("second run of '" + text + "'", t.runCommands(), first);
            Expect.same("length of '" + text + "'", t.clearCommands(), text.length());
        }
    }

    /** A text that was longer leaves nothing behind: what is beyond its end is not looked at. */
    private static void runOfAShorterText() {
        CrateTour t = withText("wait 1;wait 2;wait 3;").make();
        t.clearCommands();
        Scenes.type(t, "wait 7;");
        Expect.same("run of the shorter text", t.runCommands(), 1);
        Expect.same("time", t.whole(0), 57);
        t.clearCommands();
        Scenes.type(t, "wait");
        Expect.same("run of a word in front of an older number", t.runCommands(), -14);
    }
}
