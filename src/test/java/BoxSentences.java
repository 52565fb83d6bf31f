/** "Box and trays", and promises 1 to 3, 8 to 10 and 13. */
final class BoxSentences {
    private static final int BAD = TrayBox.BAD, STATE = TrayBox.STATE, FULL = TrayBox.FULL, NONE = TrayBox.NONE;
    private static final int MIN = Integer.MIN_VALUE, MAX = Integer.MAX_VALUE;

    private BoxSentences() {
    }

    static void run() {
        atMost512Calls();
        describedBox();
        describedTrays();
        newObject();
        setBox();
        setShare();
        add();
        drop();
        setTray();
        empty();
    }

    private static void atMost512Calls() {
        Sentence s = Sentence.of("What it is", "An object is used for at most 512 calls after it has been made");
        TrayBox box = new TrayBox();
        s.due("call 1", box.add(6, 6, 9, 9), 0);
        for (int call = 2; call < 512; call += 2) {
            s.due("call " + call, box.letDown(0, 0, 0, false), 0);
            s.due("call " + (call + 1), box.takeOut(0), 0);
        }
        s.due("call 512", box.undo(), 7);
    }

    private static void describedBox() {
        sidesOfTheBox();
        sidesOfNewBox();
        depthOfTheBox();
        depthOfNewBox();
        cellsOfTheBox();
    }

    private static void sidesOfTheBox() {
        Sentence s = Sentence.of("Box and trays", "The box has a width W and a length L, 2 to 10 cells");
        TrayBox box = new TrayBox();
        s.refuses(box, "setBox(1, 10, 12)", BAD, b -> b.setBox(1, 10, 12));
        s.refuses(box, "setBox(10, 1, 12)", BAD, b -> b.setBox(10, 1, 12));
        s.refuses(box, "setBox(11, 2, 12)", BAD, b -> b.setBox(11, 2, 12));
        s.refuses(box, "setBox(2, 11, 12)", BAD, b -> b.setBox(2, 11, 12));
        s.due("setBox(2, 10, 12)", box.setBox(2, 10, 12), 0);
        s.due("the last cell of 2 by 10", box.seen(1, 9, true), 0);
        s.due("no third column", box.seen(2, 9, true), BAD);
        s.due("setBox(10, 2, 12)", box.setBox(10, 2, 12), 0);
        s.due("the last cell of 10 by 2", box.seen(9, 1, true), 0);
        s.due("no third row", box.seen(9, 2, true), BAD);
    }

    private static void sidesOfNewBox() {
        Sentence s = Sentence.of("Box and trays", "(initially 6 and 6)");
        TrayBox box = new TrayBox();
        s.due("W", box.count(0), 6);
        s.due("L", box.count(1), 6);
        s.due("the last cell", box.seen(5, 5, true), 0);
        s.due("no seventh column", box.seen(6, 5, true), BAD);
        s.due("no seventh row", box.seen(5, 6, true), BAD);
        box.add(6, 6, 1, 0);
        box.add(7, 1, 1, 0);
        s.due("a tray of 6 by 6", box.letDown(0, 0, 0, false), 0);
        s.due("a tray of 7 by 1", box.letDown(1, 0, 0, false), BAD);
        s.due("a tray of 7 by 1, turned", box.letDown(1, 0, 0, true), BAD);
    }

    private static void depthOfTheBox() {
        Sentence s = Sentence.of("Box and trays", "and a depth D, 1 to 30");
        TrayBox box = Boxes.withTrays(1);
        box.add(1, 1, 2, 0);
        s.refuses(box, "setBox(6, 6, 0)", BAD, b -> b.setBox(6, 6, 0));
        s.refuses(box, "setBox(6, 6, 31)", BAD, b -> b.setBox(6, 6, 31));
        s.due("setBox(6, 6, 1)", box.setBox(6, 6, 1), 0);
        s.due("a height of 1 fits", box.letDown(0, 0, 0, false), 0);
        s.due("a height of 2 does not", box.letDown(1, 5, 5, false), FULL);
        s.due("setBox(6, 6, 30)", box.setBox(6, 6, 30), 1);
        s.due("D", box.count(2), 30);
        TrayBox deepest = Boxes.loose(2, 2, 30, "1x1x9;1x1x9;1x1x9l;1x1x1;1x1x2;");
        deepest.letDown(0, 0, 0, false);
        deepest.letDown(1, 0, 0, false);
        s.due("a top of 28", deepest.letDown(2, 0, 0, false), 18);
        s.due("a top of 30", deepest.letDown(4, 0, 0, false), 28);
        s.due("a top of 31", deepest.letDown(3, 0, 0, false), FULL);
    }

    private static void depthOfNewBox() {
        Sentence s = Sentence.of("Box and trays", "(initially 12)");
        TrayBox box = Boxes.loaded("1x1x9;1x1x4;1x1x3;");
        s.due("D", box.count(2), 12);
        box.letDown(0, 0, 0, false);
        s.due("a top of 13", box.letDown(1, 0, 0, false), FULL);
        s.due("a top of 12", box.letDown(2, 0, 0, false), 9);
    }

    private static void cellsOfTheBox() {
        Sentence s = Sentence.of("Box and trays",
                "Its cells have the places x, y with x from 0 to W - 1 and y from 0 to L - 1.");
        TrayBox box = new TrayBox();
        box.setBox(3, 4, 12);
        for (int x = -1; x <= 10; x++) {
            for (int y = -1; y <= 10; y++) {
                boolean isCell = x >= 0 && x < 3 && y >= 0 && y < 4;
                s.due("seen(" + x + ", " + y + ", true)", box.seen(x, y, true), isCell ? 0 : BAD);
            }
        }
    }

    private static void describedTrays() {
        atMostTwelve();
        numbersOfTrays();
        sidesOfTrays();
        heightsOfTrays();
        turnsOfTrays();
        lidsOfTrays();
        turnedTrays();
        exchangedSides();
        lidIsOneHigher();
        inTheBoxOrOutOfIt();
    }

    private static void atMostTwelve() {
        Sentence s = Sentence.of("Box and trays", "There are at most 12 trays,");
        TrayBox box = Boxes.withTrays(11);
        s.due("the twelfth tray", box.add(1, 1, 1, 0), 11);
        s.refuses(box, "the thirteenth tray", FULL, b -> b.add(1, 1, 1, 0));
        s.due("trays", box.count(4), 12);
        s.due("the twelfth one", box.tray(11, 0), 1);
        s.due("no thirteenth one", box.tray(12, 0), BAD);
        TrayBox text = Boxes.withText(Boxes.text(12));
        s.due("twelve trays of a text", text.load(), 12);
        text.type('1');
        s.due("thirteen trays of a text", text.load(), -10 - 72);
        s.due("trays of the text before", text.count(4), 12);
    }

    private static void numbersOfTrays() {
        Sentence s = Sentence.of("Box and trays", "numbered from 0 in the order in which they were added.");
        TrayBox box = new TrayBox();
        for (int tray = 0; tray < 12; tray++) {
            s.due("number of the next tray", box.add(tray % 10 + 1, 1, 1, 0), tray);
        }
        for (int tray = 0; tray < 12; tray++) {
            s.due("width of the tray " + tray, box.tray(tray, 0), tray % 10 + 1);
        }
    }

    private static void sidesOfTrays() {
        Sentence s = Sentence.of("Box and trays", "A tray has a width and a length, 1 to 10,");
        TrayBox box = new TrayBox();
        box.setBox(10, 10, 1);
        s.refuses(box, "a width of 0", BAD, b -> b.add(0, 10, 1, 0));
        s.refuses(box, "a width of 11", BAD, b -> b.add(11, 1, 1, 0));
        s.refuses(box, "a length of 0", BAD, b -> b.add(10, 0, 1, 0));
        s.refuses(box, "a length of 11", BAD, b -> b.add(1, 11, 1, 0));
        s.due("1 by 10", box.add(1, 10, 1, 0), 0);
        s.due("10 by 1", box.add(10, 1, 1, 0), 1);
        s.due("10 by 10", box.add(10, 10, 1, 0), 2);
        s.due("10 by 10 in the largest box", box.letDown(2, 0, 0, false), 0);
    }

    private static void heightsOfTrays() {
        Sentence s = Sentence.of("Box and trays", "a height, 1 to 9,");
        TrayBox box = new TrayBox();
        s.refuses(box, "a height of 0", BAD, b -> b.add(1, 1, 0, 0));
        s.refuses(box, "a height of 10", BAD, b -> b.add(1, 1, 10, 0));
        s.due("a height of 1", box.add(1, 1, 1, 0), 0);
        s.due("a height of 9", box.add(1, 1, 9, 0), 1);
        s.due("tray(0, 2)", box.tray(0, 2), 1);
        s.due("tray(1, 2)", box.tray(1, 2), 9);
    }

    private static void turnsOfTrays() {
        Sentence s = Sentence.of("Box and trays", "a turn, 0 to 9,");
        TrayBox box = new TrayBox();
        s.refuses(box, "a turn of -1", BAD, b -> b.add(1, 1, 1, -1));
        s.refuses(box, "a turn of 10", BAD, b -> b.add(1, 1, 1, 10));
        s.due("a turn of 0", box.add(1, 1, 1, 0), 0);
        s.due("a turn of 9", box.add(1, 1, 1, 9), 1);
        s.due("tray(0, 3)", box.tray(0, 3), 0);
        s.due("tray(1, 3)", box.tray(1, 3), 9);
    }

    private static void lidsOfTrays() {
        Sentence s = Sentence.of("Box and trays", "and can have a lid (initially it has none)");
        TrayBox box = Boxes.loaded("1x1x1;1x1x1l;");
        box.add(1, 1, 1, 0);
        s.due("a tray of a text", box.tray(0, 4), 0);
        s.due("a tray of a text with a lid", box.tray(1, 4), 1);
        s.due("a tray that was added", box.tray(2, 4), 0);
        box.setTray(2, 1, 1);
        s.due("a tray that was given a lid", box.tray(2, 4), 1);
    }

    private static void turnedTrays() {
        Sentence s = Sentence.of("Box and trays", "and be turned (initially it is not).");
        TrayBox box = Boxes.loaded("2x1x1;");
        box.add(2, 1, 1, 0);
        s.due("a tray of a text", box.tray(0, 6), 0);
        s.due("a tray that was added", box.tray(1, 6), 0);
        box.letDown(1, 0, 0, true);
        s.due("a tray that was let down turned", box.tray(1, 6), 1);
    }

    private static void exchangedSides() {
        Sentence s = Sentence.of("Box and trays",
                "If it is turned, its width and its length are exchanged where it lies.");
        TrayBox box = Boxes.loaded("3x2x1;");
        box.letDown(0, 1, 2, true);
        for (int x = 0; x < 6; x++) {
            for (int y = 0; y < 6; y++) {
                boolean isCovered = x >= 1 && x < 1 + 2 && y >= 2 && y < 2 + 3;
                s.due("seen(" + x + ", " + y + ", true)", box.seen(x, y, true), isCovered ? 1 : 0);
            }
        }
        s.due("its width as it was added", box.tray(0, 0), 3);
        s.due("its length as it was added", box.tray(0, 1), 2);
    }

    private static void lidIsOneHigher() {
        Sentence s = Sentence.of("Box and trays", "With a lid it is 1 higher.");
        TrayBox box = Boxes.loose(2, 2, 9, "1x1x9;1x1x8;");
        box.setTray(0, 1, 1);
        s.due("9 and a lid are too high for 9", box.letDown(0, 0, 0, false), FULL);
        box.setTray(0, 1, 0);
        s.due("9 without it are not", box.letDown(0, 0, 0, false), 0);
        box.setTray(1, 1, 1);
        s.due("8 and a lid are not", box.letDown(1, 1, 1, false), 0);
        s.due("the top of 8 and a lid", box.tray(1, 10), 9);
        s.due("the air beside 9, and 8 and a lid", box.count(8), 2 * 2 * 9 - 9 - 9);
    }

    private static void inTheBoxOrOutOfIt() {
        Sentence s = Sentence.of("Box and trays", "A tray is in the box, or out of it (initially).");
        TrayBox box = Boxes.loaded("1x1x1;");
        box.add(1, 1, 1, 0);
        s.due("a tray of a text", box.tray(0, 5), 0);
        s.due("a tray that was added", box.tray(1, 5), 0);
        box.letDown(1, 0, 0, false);
        s.due("let down", box.tray(1, 5), 1);
        box.takeOut(1);
        s.due("taken out", box.tray(1, 5), 0);
    }

    private static void newObject() {
        Sentence trays = Sentence.of("Promise 1", "Creates an empty box without trays,");
        TrayBox box = new TrayBox();
        trays.due("trays", box.count(4), 0);
        trays.due("trays in the box", box.count(5), 0);
        trays.due("the height of the box", box.count(7), 0);
        trays.due("no first tray", box.tray(0, 0), BAD);
        trays.due("nothing is seen", box.seen(0, 0, false), NONE);
        Sentence text = Sentence.of("Promise 1", "with an empty text buffer;");
        text.due("characters", box.count(11), 0);
        text.due("clearText()", box.clearText(), 0);
        text.due("load()", new TrayBox().load(), 0);
        Sentence states = Sentence.of("Promise 1", "there are no remembered states.");
        states.due("states", box.count(12), 0);
        states.refuses(box, "undo()", STATE, TrayBox::undo);
    }

    private static void setBox() {
        setBoxTakesAllOut();
        boxArguments();
        Sentence change = Sentence.of("Promise 2", "This is a change.");
        TrayBox box = Boxes.loaded("2x3x1;");
        box.letDown(0, 1, 1, true);
        change.isChange(box, "setBox(2, 10, 30)", b -> b.setBox(2, 10, 30));
        change.isChange(box, "setBox() to what it was", b -> b.setBox(6, 6, 12));
        change.isChange(new TrayBox(), "setBox() of an empty box to what it was", b -> b.setBox(6, 6, 12));
    }

    private static void setBoxTakesAllOut() {
        TrayBox box = Boxes.loose(6, 6, 12, "2x3x1;3x2x1;1x1x1;");
        Sentence before = Sentence.of("Promise 2", "Returns how many trays were in the box before;");
        before.due("of an empty box", box.setBox(6, 6, 12), 0);
        box.letDown(0, 1, 1, true);
        box.letDown(1, 1, 1, false);
        before.due("one of them lies on the other", box.setBox(6, 6, 12), 2);
        Sentence out = Sentence.of("Promise 2", "all trays are out of it then,");
        out.due("trays in the box", box.count(5), 0);
        out.due("also the one that was not free", box.tray(0, 5), 0);
        out.due("trays", box.count(4), 3);
        Sentence turned = Sentence.of("Promise 2", "and none is turned.");
        turned.due("the one that was", box.tray(0, 6), 0);
        turned.due("the one that was not", box.tray(1, 6), 0);
        TrayBox twelve = Boxes.withTrays(12);
        twelve.pack();
        before.due("of twelve trays", twelve.setBox(2, 2, 1), 12);
    }

    private static void boxArguments() {
        TrayBox box = Boxes.loaded("1x1x1;");
        box.letDown(0, 1, 1, false);
        Sentence width = Sentence.of("Promise 2", "Sets the box;", "width: 2 to 10");
        width.refuses(box, "setBox(1, 6, 12)", BAD, b -> b.setBox(1, 6, 12));
        width.refuses(box, "setBox(11, 6, 12)", BAD, b -> b.setBox(11, 6, 12));
        Sentence length = Sentence.of("Promise 2", "length: 2 to 10");
        length.refuses(box, "setBox(6, 1, 12)", BAD, b -> b.setBox(6, 1, 12));
        length.refuses(box, "setBox(6, 11, 12)", BAD, b -> b.setBox(6, 11, 12));
        Sentence depth = Sentence.of("Promise 2", "depth: 1 to 30");
        depth.refuses(box, "setBox(6, 6, 0)", BAD, b -> b.setBox(6, 6, 0));
        depth.refuses(box, "setBox(6, 6, 31)", BAD, b -> b.setBox(6, 6, 31));
        Sentence bad = Sentence.of("Promise 2", "BAD if an argument is out of range.");
        for (int wrong : new int[] {MIN, -1, 0, MAX}) {
            bad.refuses(box, "setBox(" + wrong + ", 6, 12)", BAD, b -> b.setBox(wrong, 6, 12));
            bad.refuses(box, "setBox(6, " + wrong + ", 12)", BAD, b -> b.setBox(6, wrong, 12));
            bad.refuses(box, "setBox(6, 6, " + wrong + ")", BAD, b -> b.setBox(6, 6, wrong));
        }
        box.setBox(2, 10, 1);
        width.due("W of 2", box.count(0), 2);
        length.due("L of 10", box.count(1), 10);
        depth.due("D of 1", box.count(2), 1);
        box.setBox(10, 2, 30);
        width.due("W of 10", box.count(0), 10);
        length.due("L of 2", box.count(1), 2);
        depth.due("D of 30", box.count(2), 30);
    }

    private static void setShare() {
        TrayBox box = Boxes.loaded("1x1x1;2x1x1;");
        box.letDown(0, 0, 0, false);
        box.letDown(1, 0, 0, false);
        Sentence range = Sentence.of("Promise 3", "Sets the share", "share: 0 to 100");
        Sentence before = Sentence.of("Promise 3", "Returns the share before;");
        before.due("setShare(0)", box.setShare(0), 50);
        range.due("the share of 0", box.count(3), 0);
        before.due("setShare(100)", box.setShare(100), 0);
        range.due("the share of 100", box.count(3), 100);
        before.due("setShare(100) once more", box.setShare(100), 100);
        Sentence stay = Sentence.of("Promise 3", "(trays that are in the box stay)");
        stay.due("a tray that would not stand any more", box.tray(1, 5), 1);
        stay.due("its floor", box.tray(1, 9), 1);
        stay.due("the cells on which it rests", box.tray(1, 15), 1);
        Sentence bad = Sentence.of("Promise 3", "BAD if share is out of range.");
        for (int wrong : new int[] {-1, 101, MIN, MAX}) {
            bad.refuses(box, "setShare(" + wrong + ")", BAD, b -> b.setShare(wrong));
        }
        Sentence change = Sentence.of("Promise 3", "This is a change.");
        change.isChange(box, "setShare(7)", b -> b.setShare(7));
        change.isChange(box, "setShare() to what it was", b -> b.setShare(100));
    }

    private static void add() {
        addArguments();
        addAfterOthers();
        TrayBox box = new TrayBox();
        Sentence number = Sentence.of("Promise 8", "Returns its number;");
        for (int tray = 0; tray < 12; tray++) {
            number.due("add() to " + tray + " trays", box.add(1, 1, 1, 0), tray);
        }
        Sentence full = Sentence.of("Promise 8", "FULL if there are 12 trays.");
        full.refuses(box, "a thirteenth tray", FULL, b -> b.add(1, 1, 1, 0));
        box.drop(11);
        full.due("there is room again", box.add(1, 1, 1, 0), 11);
        full.refuses(box, "and none again", FULL, b -> b.add(10, 10, 9, 9));
    }

    private static void addArguments() {
        String[] sentences = {"width: 1 to 10", "length: 1 to 10", "height: 1 to 9", "turn: 0 to 9"};
        int[] most = {10, 10, 9, 9};
        int[] least = {1, 1, 1, 0};
        Sentence bad = Sentence.of("Promise 8", "BAD if an argument is out of range;");
        for (int i = 0; i < 4; i++) {
            Sentence s = Sentence.of("Promise 8", sentences[i]);
            TrayBox box = new TrayBox();
            addOf(s, box, i, least[i] - 1, BAD);
            addOf(s, box, i, most[i] + 1, BAD);
            addOf(bad, box, i, MIN, BAD);
            addOf(bad, box, i, MAX, BAD);
            addOf(bad, box, i, -1, BAD);
            s.due("the least one", addWith(box, i, least[i]), 0);
            s.due("the greatest one", addWith(box, i, most[i]), 1);
            s.due("tray(0, " + i + ")", box.tray(0, i), least[i]);
            s.due("tray(1, " + i + ")", box.tray(1, i), most[i]);
        }
    }

    private static void addOf(Sentence s, TrayBox box, int argument, int value, int code) {
        s.refuses(box, "argument " + argument + " of " + value, code, b -> addWith(b, argument, value));
    }

    private static int addWith(TrayBox box, int argument, int value) {
        int[] arguments = {5, 5, 5, 5};
        arguments[argument] = value;
        return box.add(arguments[0], arguments[1], arguments[2], arguments[3]);
    }

    private static void addAfterOthers() {
        TrayBox box = Boxes.loaded("1x1x1;2x1x1l;");
        box.letDown(1, 0, 0, true);
        box.drop(0);
        box.add(3, 1, 1, 0);
        Sentence lid = Sentence.of("Promise 8", "Adds a tray without a lid;");
        lid.due("tray(1, 4) where one with a lid was", box.tray(1, 4), 0);
        Sentence out = Sentence.of("Promise 8", "it is out of the box.");
        out.due("tray(1, 5) where one in the box was", box.tray(1, 5), 0);
        out.due("tray(1, 6) where a turned one was", box.tray(1, 6), 0);
        out.due("tray(1, 7)", box.tray(1, 7), NONE);
        out.due("the one in the box lies there alone", box.count(5), 1);
        Sentence change = Sentence.of("Promise 8", "This is a change.");
        change.isChange(box, "add(1, 1, 1, 0)", b -> b.add(1, 1, 1, 0));
        change.isChange(new TrayBox(), "add(10, 10, 9, 9)", b -> b.add(10, 10, 9, 9));
    }

    private static void drop() {
        dropOfTrays();
        TrayBox box = Boxes.withTrays(2);
        box.letDown(0, 0, 0, false);
        box.letDown(1, 0, 0, false);
        Sentence bad = Sentence.of("Promise 9", "BAD if there is no such tray;");
        for (int wrong : new int[] {-1, 2, 12, MIN, MAX}) {
            bad.refuses(box, "drop(" + wrong + ")", BAD, b -> b.drop(wrong));
        }
        bad.refuses(new TrayBox(), "drop(0) without trays", BAD, b -> b.drop(0));
        Sentence state = Sentence.of("Promise 9", "STATE if it is in the box.");
        state.refuses(box, "drop(0), which is not free", STATE, b -> b.drop(0));
        state.refuses(box, "drop(1), which is free", STATE, b -> b.drop(1));
        box.takeOut(1);
        state.due("drop(1) when it is out", box.drop(1), 1);
    }

    private static void dropOfTrays() {
        TrayBox box = Boxes.loaded("1x1x1;2x1x2@3;3x1x3l@4;4x1x4@5;");
        box.letDown(3, 1, 2, true);
        Sentence change = Sentence.of("Promise 9", "This is a change.");
        change.isChange(box, "drop(0)", b -> b.drop(0));
        change.isChange(box, "drop(2)", b -> b.drop(2));
        Sentence left = Sentence.of("Promise 9", "Returns how many trays are left;");
        left.due("drop(1) of four", box.drop(1), 3);
        Sentence removed = Sentence.of("Promise 9", "Removes a tray that is out of the box.", "tray: the tray");
        removed.due("trays", box.count(4), 3);
        removed.due("the one before it stays", box.tray(0, 0), 1);
        removed.due("it is away", box.tray(1, 0), 3);
        Sentence numbers = Sentence.of("Promise 9", "The numbers of the trays behind it become smaller by 1.");
        int[] third = {3, 1, 3, 4, 1, 0, 0, NONE};
        int[] fourth = {4, 1, 4, 5, 0, 1, 1, 1, 2, 0, 4, 0, 0, 1, 0, 4};
        for (int what = 0; what < third.length; what++) {
            numbers.due("tray(1, " + what + ")", box.tray(1, what), third[what]);
        }
        for (int what = 0; what < fourth.length; what++) {
            numbers.due("tray(2, " + what + ")", box.tray(2, what), fourth[what]);
        }
        numbers.due("what is seen", box.seen(1, 5, false), 2);
        numbers.due("tray(3, 0)", box.tray(3, 0), BAD);
        left.due("drop(0) of three", box.drop(0), 2);
        left.due("drop(0) of two", box.drop(0), 1);
        box.takeOut(0);
        left.due("the last one", box.drop(0), 0);
    }

    private static void setTray() {
        TrayBox box = Boxes.loaded("1x1x1@4;1x1x1l@4;");
        Sentence before = Sentence.of("Promise 10", "Returns the value before;");
        Sentence turn = Sentence.of("Promise 10", "Sets the turn of a tray,", "tray: the tray",
                "what: 0 for the turn, 1 for the lid", "value: the turn, 0 to 9,");
        before.due("setTray(0, 0, 0)", box.setTray(0, 0, 0), 4);
        turn.due("the least turn", box.tray(0, 3), 0);
        before.due("setTray(0, 0, 9)", box.setTray(0, 0, 9), 0);
        turn.due("the greatest turn", box.tray(0, 3), 9);
        turn.due("the lid stays", box.tray(0, 4), 0);
        turn.due("the other tray stays", box.tray(1, 3), 4);
        turn.refuses(box, "setTray(0, 0, -1)", BAD, b -> b.setTray(0, 0, -1));
        turn.refuses(box, "setTray(0, 0, 10)", BAD, b -> b.setTray(0, 0, 10));
        Sentence lid = Sentence.of("Promise 10", "or whether it has a lid.", "or 1 for a lid and 0 for none");
        before.due("setTray(0, 1, 1)", box.setTray(0, 1, 1), 0);
        lid.due("a lid", box.tray(0, 4), 1);
        before.due("setTray(0, 1, 0)", box.setTray(0, 1, 0), 1);
        lid.due("no lid", box.tray(0, 4), 0);
        lid.due("the turn stays", box.tray(0, 3), 9);
        lid.due("the other tray stays", box.tray(1, 4), 1);
        lid.refuses(box, "setTray(0, 1, -1)", BAD, b -> b.setTray(0, 1, -1));
        lid.refuses(box, "setTray(0, 1, 2)", BAD, b -> b.setTray(0, 1, 2));
        Sentence change = Sentence.of("Promise 10", "This is a change.");
        change.isChange(box, "setTray(0, 0, 8)", b -> b.setTray(0, 0, 8));
        change.isChange(box, "setTray(0, 0, 9), as it was", b -> b.setTray(0, 0, 9));
        change.isChange(box, "setTray(1, 1, 0)", b -> b.setTray(1, 1, 0));
        change.isChange(box, "setTray(1, 1, 1), as it was", b -> b.setTray(1, 1, 1));
        setTrayRefuses();
    }

    private static void setTrayRefuses() {
        TrayBox box = Boxes.loaded("1x1x1@4;1x1x1l@4;");
        Sentence bad = Sentence.of("Promise 10", "BAD if there is no such tray, or an argument is out of range;");
        for (int wrong : new int[] {-1, 2, 12, MIN, MAX}) {
            bad.refuses(box, "setTray(" + wrong + ", 0, 0)", BAD, b -> b.setTray(wrong, 0, 0));
            bad.refuses(box, "setTray(" + wrong + ", 1, 0)", BAD, b -> b.setTray(wrong, 1, 0));
            bad.refuses(box, "setTray(0, " + wrong + ", 0)", BAD, b -> b.setTray(0, wrong, 0));
        }
        for (int wrong : new int[] {MIN, MAX}) {
            bad.refuses(box, "setTray(0, 0, " + wrong + ")", BAD, b -> b.setTray(0, 0, wrong));
            bad.refuses(box, "setTray(0, 1, " + wrong + ")", BAD, b -> b.setTray(0, 1, wrong));
        }
        Sentence state = Sentence.of("Promise 10", "STATE if the lid is to be set, and the tray is in the box.");
        box.letDown(0, 0, 0, false);
        state.refuses(box, "a lid", STATE, b -> b.setTray(0, 1, 1));
        state.refuses(box, "no lid, as it was", STATE, b -> b.setTray(0, 1, 0));
        state.due("the lid of a tray that is out", box.setTray(1, 1, 0), 1);
        state.due("the turn of a tray in the box", box.setTray(0, 0, 5), 4);
        state.due("its turn then", box.tray(0, 3), 5);
        box.takeOut(0);
        state.due("the lid of a tray that was taken out", box.setTray(0, 1, 1), 0);
    }

    private static void empty() {
        TrayBox box = Boxes.loose(6, 6, 12, "2x1x1;1x1x1;1x1x1;");
        Sentence before = Sentence.of("Promise 13", "Returns how many trays were in the box.");
        before.due("empty() of an empty box", box.empty(), 0);
        box.letDown(0, 0, 0, true);
        box.letDown(1, 0, 1, true);
        Sentence change = Sentence.of("Promise 13", "This is a change.");
        change.isChange(box, "empty()", TrayBox::empty);
        change.isChange(new TrayBox(), "empty() of an empty box", TrayBox::empty);
        before.due("empty() of two", box.empty(), 2);
        Sentence out = Sentence.of("Promise 13", "Takes all trays out;");
        out.due("trays in the box", box.count(5), 0);
        out.due("the one that was not free", box.tray(0, 5), 0);
        out.due("nothing is seen", box.seen(0, 0, true), 0);
        out.due("trays", box.count(4), 3);
        Sentence turned = Sentence.of("Promise 13", "none is turned then.");
        turned.due("the first one", box.tray(0, 6), 0);
        turned.due("the second one", box.tray(1, 6), 0);
        TrayBox twelve = Boxes.withTrays(12);
        twelve.pack();
        before.due("empty() of twelve", twelve.empty(), 12);
    }
}
