/** Promises 28 to 30: texts of commands. */
public final class CommandsTest {
    private static final int LOW = Integer.MIN_VALUE;
    private static final int HIGH = Integer.MAX_VALUE;
    private static final int NONE = CrateTour.NONE;
    private static final String[] WORDS =
            {"open", "close", "nest", "out", "pack", "unpack", "send", "escort", "wait"};
    private static final int[] NUMBERS = {1, 1, 2, 1, 2, 1, 2, 3, 1};

    public static void main(String[] args) {
        type();
        clearCommands();
        faultlessTexts();
        faults();
        faultsOfEveryWord();
        faultsAtEveryByte();
        runsEveryCommand();
        runGivesEachNumberItsPlace();
        runRefusesByTheRightNumber();
        runStopsAtAnException();
        runSavesOneState();
        runWithAFaultDoesNothing();
        runKeepsTheText();
        runOfAFullText();
        Expect.done("CommandsTest");
    }

    private static void type() {
        CrateTour t = new CrateTour();
        for (int value : new int[] {-1, 128, LOW, HIGH}) {
            Expect.refuses("type(" + value + ")", Expect.ARGUMENT, t, () -> t.type(value));
        }
        Expect.same("type(0)", t.type(0), 1);
        Expect.same("type(127)", t.type(127), 2);
        Expect.same("states saved by type()", Scenes.saved(t, 2), 0);
        for (int length = 3; length <= 150; length++) {
            Expect.same("type(' ')", t.type(' '), length);
        }
        Expect.refuses("type(' ') on a full text", Expect.STATE, t, () -> t.type(' '));
        Expect.refuses("type(128) on a full text", Expect.ARGUMENT, t, () -> t.type(128));
        Expect.refuses("type(-1) on a full text", Expect.ARGUMENT, t, () -> t.type(-1));
        Expect.same("clearCommands()", t.clearCommands(), 150);
        Expect.same("type(65)", t.type(65), 1);
    }

    private static void clearCommands() {
        CrateTour t = new CrateTour();
        Expect.same("clearCommands() of an empty text", t.clearCommands(), 0);
        Scenes.type(t, "wait 5;");
        Expect.same("clearCommands()", t.clearCommands(), 7);
        Expect.same("states saved by clearCommands()", Scenes.saved(t, 0), 0);
        Expect.same("clearCommands() again", t.clearCommands(), 0);
        Expect.same("runCommands() of the empty text", t.runCommands(), 0);
        Expect.same("time", t.whole(0), 0);
        Scenes.type(t, "wait 7;");
        Expect.same("runCommands()", t.runCommands(), 1);
        Expect.same("time", t.whole(0), 7);
    }

    /** Runs a text on a tour without crates, where each command but wait stops the run. */
    private static void run(String text, int due) {
        CrateTour t = new CrateTour();
        Scenes.type(t, text);
        Expect.same("runCommands() of '" + text + "'", t.runCommands(), due);
        Expect.same("states saved by '" + text + "'", Scenes.saved(t, text.length()), due >= 0 ? 1 : 0);
        if (due < 0) {
            Expect.same("time behind '" + text + "'", t.whole(0), 0);
        }
    }

    private static void fault(String text, int index) {
        run(text, -10 - index);
        run("wait 1;" + text, -17 - index);
        run("  wait 23 ;  " + text, -23 - index);
    }

    private static void faultlessTexts() {
        run("", 0);
        run(" ", 0);
        run("     ", 0);
        run("wait 1;", 1);
        run("wait 1;wait 2;", 2);
        run("  wait   1  ;  wait 0002;  ", 2);
        run("wait 0240;", 1);
        run("wait 0;", 0);
        run("wait 241;", 0);
        run("wait 9999;wait 1;", 0);
        run("wait 1;wait 0000;wait 1;", 1);
        run("open 0;", 0);
        run("escort 9999 9999 9999;", 0);
        run(" ".repeat(150), 0);
        run("wait 5;" + " ".repeat(143), 1);
    }

    private static void faults() {
        fault("w", 0);
        fault("wai", 0);
        fault("wait", 4);
        fault("wait ", 5);
        fault("wait   ", 7);
        fault("wait 1", 6);
        fault("wait 1 ", 7);
        fault("wait 1 2;", 7);
        fault("wait 1 wait 2;", 7);
        fault("wait 1wait 2;", 6);
        fault("wait 12345;", 9);
        fault("wait 00001;", 9);
        fault("wait 12345", 9);
        fault("wait 1234", 9);
        fault("wait1;", 4);
        fault("wait;", 4);
        fault("wait ;", 5);
        fault("wait -1;", 5);
        fault("wait x;", 5);
        fault("wait 1x;", 6);
        fault("waits 1;", 0);
        fault("waits", 0);
        fault("Wait 1;", 0);
        fault("waiT 1;", 0);
        fault("wAit 1;", 0);
        fault("WAIT 1;", 0);
        fault(";", 0);
        fault("1", 0);
        fault("1;", 0);
        fault("  x 1;", 2);
        fault("   ;", 3);
        fault("   xyz", 3);
        fault("   xyz   ", 3);
        fault("wait 1;;", 7);
        fault("wait 1; ;", 8);
        fault("wait 1;1;", 7);
        fault("wait 1;x", 7);
        fault("wait 1; x ", 8);
        fault("takeout 1;", 0);
        fault("sent 1 2;", 0);
        fault("nest 1;", 6);
        fault("nest 1 ;", 7);
        fault("nest 1", 6);
        fault("nest 1 ", 7);
        fault("nest 1 2", 8);
        fault("nest 1 2 3;", 9);
        fault("nest 1,2;", 6);
        fault("nest 12345 1;", 9);
        fault("nest 1 23456;", 11);
        fault("nest1 2;", 4);
        fault("escort 1 2;", 10);
        fault("escort 1 2 ;", 11);
        fault("escort 1 2 3 4;", 13);
        fault("openclose 1;", 0);
        fault("unpack1 ;", 6);
        fault("wait\t1;", 4);
        fault("wait 1\t;", 6);
        fault("\twait 1;", 0);
        fault("wait 1;\n", 7);
        fault("wait `;", 5);
        fault("wait{ 1;", 4);
        fault("wait` 1;", 4);
        fault("wai` 1;", 0);
        fault("wait /;", 5);
        fault("wait :;", 5);
        fault("wait 1:", 6);
        fault("wait " + (char) 0, 5);
        fault("wait 1" + (char) 127, 6);
        fault(String.valueOf((char) 0), 0);
        fault("x".repeat(137), 0);
        run("x".repeat(150), -10);
        run(" ".repeat(149) + "x", -159);
        run("wait" + " ".repeat(146), -160);
        run(" ".repeat(146) + "wait", -160);
        run(" ".repeat(145) + "wait ", -160);
        run(" ".repeat(144) + "wait 1", -160);
        run(" ".repeat(143) + "wait 1 ", -160);
        run(" ".repeat(143) + "wait 1;", 1);
        run("wait 1" + " ".repeat(144), -160);
    }

    private static void faultsOfEveryWord() {
        for (int i = 0; i < WORDS.length; i++) {
            String word = WORDS[i];
            int length = word.length();
            fault(word.substring(0, length - 1), 0);
            fault(word.substring(1), 0);
            fault(word + "a", 0);
            fault(word + "z 1;", 0);
            fault("z" + word + " 1;", 0);
            fault("z" + word.substring(1) + " 1;", 0);
            fault(word + word, 0);
            fault(word, length);
            String text = word;
            for (int n = 0; n < NUMBERS[i]; n++) {
                fault(text + ";", text.length());
                fault(text + " ;", text.length() + 1);
                text += " 7";
            }
            fault(text, text.length());
            fault(text + " 7;", text.length() + 1);
            run(text + ";", word.equals("wait") ? 1 : 0);
            run("wait 1;" + text + " ; ", word.equals("wait") ? 2 : 1);
        }
    }

    /** A text with a byte that can stand nowhere is at fault there, or where its word begins. */
    private static void faultsAtEveryByte() {
        String text = " send 12  345 ; escort 0 1 02; wait 7; ";
        for (int at = 0; at < text.length(); at++) {
            int due = at;
            while (due > 0 && Character.isLetter(text.charAt(due - 1))) {
                due--;
            }
            boolean endsAWord = !Character.isLetter(text.charAt(at));
            String spoiled = text.substring(0, at) + "#" + text.substring(at + 1);
            run(spoiled, -10 - (endsAWord ? at : due));
        }
    }

    private static void runsEveryCommand() {
        CrateTour t = Scenes.threeVenues();
        t.addCrate(0, 1);
        t.addCrate(0, 1);
        t.addWork(0, 0, 5, 9, true);
        t.addWork(0, 0, 7, 9, false);
        t.addCourier(0);
        t.addCourier(0);
        Expect.same("packing", Scenes.run(t, "pack 0 1;close 1;nest 1 0;"), 3);
        Expect.same("crate of work 0", t.work(0, 4), 1);
        Expect.same("crate 1 is closed", t.crate(1, 1), 0);
        Expect.same("crate 1 is in", t.crate(1, 2), 0);
        Expect.same("taking out", Scenes.run(t, "out 1; open 1; unpack 0;"), 3);
        Expect.same("crate of work 0", t.work(0, 4), -1);
        Expect.same("crate 1 is in", t.crate(1, 2), -1);
        Expect.same("crate 1 is open", t.crate(1, 1), 1);
        Expect.same("sending", Scenes.run(t, "pack 1 0; close 0; wait 003; send 0 1;"), 4);
        Expect.same("arrival of crate 0", t.crate(0, 5), 33);
        Expect.same("courier(0)", t.courier(0), 0);
        Expect.same("escorting", Scenes.run(t, "pack 0 1; close 1; escort 1 1 1; wait 30;"), 4);
        Expect.same("courier(0)", t.courier(0), 0);
        Expect.same("courier(1)", t.courier(1), 1);
        Expect.same("venue of crate 1", t.crate(1, 3), 1);
        Expect.same("time", t.whole(0), 33);
        Expect.same("arrived so far", t.whole(7), 2);
    }

    /** Each command does what its call does, with numbers that differ from one another. */
    private static void runGivesEachNumberItsPlace() {
        String[] texts = {"close 3;", "close 3;nest 3 4;", "close 3;nest 3 4;out 3;", "pack 2 3;",
            "pack 2 3;unpack 2;", "pack 1 4;close 4;send 4 1;", "pack 1 4;close 4;escort 4 1 2;",
            "pack 1 4;close 4;escort 4 1 2;wait 30;open 4;", "close 4;open 4;wait 12;"};
        for (String text : texts) {
            CrateTour byText = sixOfEach();
            CrateTour byCalls = sixOfEach();
            int count = text.split(";").length;
            Expect.same("run of " + text, Scenes.run(byText, text), count);
            for (String command : text.split(";")) {
                call(byCalls, command.split(" "));
            }
            Expect.isTrue("the run of " + text + " does what the calls do",
                    Scenes.view(byText).equals(Scenes.view(byCalls)));
        }
    }

    private static void runRefusesByTheRightNumber() {
        CrateTour t = sixOfEach();
        Expect.same("nest into a closed crate", Scenes.run(t, "close 3;close 4;nest 3 4;wait 1;"), 2);
        Expect.same("nest of an open crate", Scenes.run(t, "nest 2 5;wait 1;"), 0);
        Expect.same("pack into a closed crate", Scenes.run(t, "pack 5 4;wait 1;"), 0);
        Expect.same("escort by one who is elsewhere", Scenes.run(t, "escort 4 1 1;wait 1;"), 0);
        Expect.same("send where there is no way", Scenes.run(t, "send 4 3;wait 1;"), 0);
    }

    /** Crates and works at venue 2, and couriers of whom the first ones are elsewhere. */
    private static CrateTour sixOfEach() {
        CrateTour t = new CrateTour();
        for (int i = 0; i < 4; i++) {
            t.addVenue(20, 50, 0, 10_000_000);
        }
        t.setWay(2, 1, 30);
        for (int i = 0; i < 6; i++) {
            t.addCrate(2, 1);
            t.addWork(2, i, 10 + i, 5, false);
        }
        for (int venue : new int[] {0, 1, 2, 2}) {
            t.addCourier(venue);
        }
        return t;
    }

    private static void call(CrateTour t, String[] parts) {
        int[] n = new int[3];
        for (int i = 1; i < parts.length; i++) {
            n[i - 1] = Integer.parseInt(parts[i]);
        }
        switch (parts[0]) {
            case "open" -> t.open(n[0]);
            case "close" -> t.close(n[0]);
            case "nest" -> t.nest(n[0], n[1]);
            case "out" -> t.takeOut(n[0]);
            case "pack" -> t.pack(n[0], n[1]);
            case "unpack" -> t.unpack(n[0]);
            case "send" -> t.send(n[0], n[1], NONE);
            case "escort" -> t.send(n[0], n[1], n[2]);
            default -> t.advance(n[0]);
        }
    }

    private static void runStopsAtAnException() {
        CrateTour t = Scenes.threeVenues();
        t.addCrate(0, 1);
        String[] wrong = {"open 0", "open 1", "close 1", "nest 0 0", "nest 0 1", "out 0", "out 9", "pack 0 0",
            "unpack 0", "send 0 1", "send 0 3", "escort 0 1 0", "wait 0", "wait 241", "wait 9999"};
        for (String command : wrong) {
            int time = t.whole(0);
            Expect.same("run up to " + command, Scenes.run(t, "wait 2;" + command + ";wait 3;"), 1);
            Expect.same("time behind " + command, t.whole(0), time + 2);
            Expect.same("crate 0 behind " + command, t.crate(0, 1), 1);
        }
        t.addWork(0, 0, 1, 9, true);
        t.pack(0, 0);
        t.close(0);
        Expect.same("send of a work that needs a courier", Scenes.run(t, "send 0 1;wait 1;"), 0);
        Expect.same("escort without couriers", Scenes.run(t, "escort 0 1 0;wait 1;"), 0);
        t.addCourier(0);
        Expect.same("escort", Scenes.run(t, "escort 0 1 0;wait 1;"), 2);
        Expect.same("escort again", Scenes.run(t, "escort 0 1 0;wait 1;"), 0);
    }

    private static void runSavesOneState() {
        CrateTour t = new CrateTour();
        t.addVenue(20, 50, 0, 0);
        String text = "wait 5; wait 6; wait 0; wait 7;";
        Expect.same("run", Scenes.run(t, text), 2);
        Expect.same("states saved", Scenes.saved(t, text.length()), 2);
        Expect.same("time", t.whole(0), 11);
        Expect.same("undo()", t.undo(), 1);
        Expect.same("time behind undo()", t.whole(0), 0);
        Expect.same("venues behind undo()", t.whole(1), 1);
        Expect.same("run of nothing", Scenes.run(t, "open 0;"), 0);
        Expect.same("states saved", Scenes.saved(t, 7), 2);
        Expect.same("run of an empty text", Scenes.run(t, ""), 0);
        Expect.same("states saved", Scenes.saved(t, 0), 3);
        Expect.same("run of spaces", Scenes.run(t, "  "), 0);
        Expect.same("run of spaces again", t.runCommands(), 0);
        Expect.same("states saved", Scenes.saved(t, 2), 4);
        Expect.same("undo()", t.undo(), 3);
    }

    private static void runWithAFaultDoesNothing() {
        CrateTour t = new CrateTour();
        t.addVenue(20, 50, 0, 0);
        Scenes.type(t, "wait 5; wait 6; wait 7");
        long before = t.digest();
        Expect.same("run", t.runCommands(), -32);
        Expect.same("digest behind it", t.digest(), before);
        t.type(';');
        Expect.same("run when it is whole", t.runCommands(), 3);
        Expect.same("time", t.whole(0), 18);
    }

    private static void runKeepsTheText() {
        CrateTour t = new CrateTour();
        Scenes.type(t, "wait 5;");
        Expect.same("first run", t.runCommands(), 1);
        Expect.same("second run", t.runCommands(), 1);
        Expect.same("time", t.whole(0), 10);
        Expect.same("undo()", t.undo(), 1);
        Expect.same("run behind undo()", t.runCommands(), 1);
        Expect.same("time", t.whole(0), 10);
        Scenes.type(t, "wait 20;");
        Expect.same("run of the longer text", t.runCommands(), 2);
        Expect.same("time", t.whole(0), 35);
        Expect.same("clearCommands()", t.clearCommands(), 15);
    }

    private static void runOfAFullText() {
        CrateTour t = new CrateTour();
        Scenes.type(t, "wait 9;".repeat(21) + "   ");
        Expect.refuses("type() on it", Expect.STATE, t, () -> t.type(' '));
        Expect.same("run", t.runCommands(), 21);
        Expect.same("time", t.whole(0), 189);
        t.clearCommands();
        Scenes.type(t, "  " + "wait 1;wait 02;".repeat(9) + "wait 0240 ;  ");
        Expect.same("run", t.runCommands(), 19);
        Expect.same("time", t.whole(0), 189 + 27 + 240);
        t.clearCommands();
        Scenes.type(t, "wait 1;".repeat(20) + "wait 00240");
        Expect.same("run of a fault near the end", t.runCommands(), -10 - 149);
    }
}
