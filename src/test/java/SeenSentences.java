/** Promises 14 and 15: the properties of trays, and what is seen from above. */
final class SeenSentences {
    private static final int BAD = TrayBox.BAD, NONE = TrayBox.NONE;
    private static final int MIN = Integer.MIN_VALUE, MAX = Integer.MAX_VALUE;
    private static final String[] PROPERTIES = {
        "0 for its width (as it was added),",
        "1 for its length (as it was added),",
        "2 for its height without a lid,",
        "3 for its turn,",
        "4 for 1 if it has a lid and 0 if not,",
        "5 for 1 if it is in the box and 0 if not,",
        "6 for 1 if it is turned and 0 if not,",
        "7 for its x,",
        "8 for its y,",
        "9 for its floor,",
        "10 for its top,",
        "11 for its lift,",
        "12 for its fault,",
        "13 for 1 if it is free and 0 if not,",
        "14 for the set of the trays above it, as a bit mask,",
        "15 for the number of the cells on which it rests"};

    private SeenSentences() {
    }

    static void run() {
        eachProperty();
        propertiesOutOfTheBox();
        trayRefuses();
        seen();
        seenCells();
        seenRefuses();
    }

    private static void eachProperty() {
        TrayBox box = Boxes.loose(7, 7, 30, "4x3x2@5;1x2x9l@6;5x1x1@5;1x1x4@9;10x10x1l@3;");
        box.letDown(0, 1, 2, false);
        box.letDown(1, 0, 2, true);
        box.letDown(2, 3, 2, true);
        box.letDown(3, 6, 6, false);
        int[][] want = {
            {4, 1, 5, 1, 10},
            {3, 2, 1, 1, 10},
            {2, 9, 1, 4, 1},
            {5, 6, 5, 9, 3},
            {0, 1, 0, 0, 1},
            {1, 1, 1, 1, 0},
            {0, 1, 1, 0, 0},
            {1, 0, 3, 6, NONE},
            {2, 2, 2, 6, NONE},
            {0, 2, 2, 0, NONE},
            {2, 12, 3, 4, NONE},
            {2, 0, 0, 0, NONE},
            {1, 0, 0, 0, NONE},
            {0, 1, 1, 1, NONE},
            {2 + 4, 0, 0, 0, NONE},
            {12, 1, 3, 1, NONE}};
        for (int what = 0; what < want.length; what++) {
            Sentence s = Sentence.of("Promise 14", "Returns a property of a tray.", "tray: the tray", "what:",
                    PROPERTIES[what]);
            for (int tray = 0; tray < 5; tray++) {
                s.due("tray(" + tray + ", " + what + ")", box.tray(tray, what), want[what][tray]);
            }
        }
        Sentence mask = Sentence.of("Promise 14", PROPERTIES[14]);
        TrayBox tower = Boxes.loose(2, 2, 30, Boxes.text(12));
        for (int tray = 11; tray >= 0; tray--) {
            tower.letDown(tray, 0, 0, false);
        }
        mask.due("of the lowest one of twelve", tower.tray(11, 14), (1 << 11) - 1);
        mask.due("of the highest one of twelve", tower.tray(0, 14), 0);
    }

    private static void propertiesOutOfTheBox() {
        Sentence s = Sentence.of("Promise 14", "Returns the property; NONE for 7 to 15 if it is out of the box;");
        TrayBox box = Boxes.loaded("2x3x4l@5;");
        box.letDown(0, 1, 1, true);
        box.takeOut(0);
        int[] want = {2, 3, 4, 5, 1, 0, 0};
        for (int what = 0; what <= 15; what++) {
            s.due("tray(0, " + what + ")", box.tray(0, what), what < 7 ? want[what] : NONE);
        }
    }

    private static void trayRefuses() {
        Sentence s = Sentence.of("Promise 14", "BAD if there is no such tray or what is out of range.");
        TrayBox box = Boxes.withTrays(2);
        box.letDown(0, 0, 0, false);
        for (int wrong : new int[] {-1, 2, 12, MIN, MAX}) {
            s.refuses(box, "tray(" + wrong + ", 0)", BAD, b -> b.tray(wrong, 0));
            s.refuses(box, "tray(" + wrong + ", 15)", BAD, b -> b.tray(wrong, 15));
        }
        for (int wrong : new int[] {-1, 16, MIN, MAX}) {
            s.refuses(box, "tray(0, " + wrong + ")", BAD, b -> b.tray(0, wrong));
            s.refuses(box, "tray(1, " + wrong + "), which is out", BAD, b -> b.tray(1, wrong));
        }
    }

    private static void seen() {
        Sentence s = Sentence.of("Promise 15", "Returns what is seen from above at a cell.",
                "top: whether the top of the uppermost tray is asked for, or else its number");
        TrayBox box = Boxes.loose(6, 6, 30, "1x1x1;1x1x9;3x1x1l;1x1x1;");
        box.letDown(3, 0, 0, false);
        box.letDown(1, 1, 0, false);
        box.letDown(2, 0, 0, false);
        s.due("the number above two trays", box.seen(0, 0, false), 2);
        s.due("the top above two trays", box.seen(0, 0, true), 11);
        s.due("the number at the other end", box.seen(2, 0, false), 2);
        box.letDown(0, 0, 0, false);
        s.due("the number of the uppermost one", box.seen(0, 0, false), 0);
        s.due("the top of the uppermost one", box.seen(0, 0, true), 12);
        s.due("the number beside it", box.seen(1, 0, false), 2);
        Sentence noTop = Sentence.of("Promise 15", "Returns the top (0 if there is none),");
        noTop.due("at a cell without a tray", box.seen(3, 0, true), 0);
        Sentence noNumber = Sentence.of("Promise 15", "or the number (NONE if there is none);");
        noNumber.due("at a cell without a tray", box.seen(3, 0, false), NONE);
        box.empty();
        noTop.due("in an empty box", box.seen(0, 0, true), 0);
        noNumber.due("in an empty box", box.seen(0, 0, false), NONE);
    }

    private static void seenCells() {
        TrayBox box = Boxes.loose(3, 5, 12, "1x1x1;1x1x2;1x1x3;1x1x4;");
        box.letDown(0, 0, 0, false);
        box.letDown(1, 2, 0, false);
        box.letDown(2, 0, 4, false);
        box.letDown(3, 2, 4, false);
        Sentence x = Sentence.of("Promise 15", "x: its x");
        x.due("seen(0, 0, false)", box.seen(0, 0, false), 0);
        x.due("seen(2, 0, false)", box.seen(2, 0, false), 1);
        Sentence y = Sentence.of("Promise 15", "y: its y");
        y.due("seen(0, 4, true)", box.seen(0, 4, true), 3);
        y.due("seen(2, 4, true)", box.seen(2, 4, true), 4);
    }

    private static void seenRefuses() {
        Sentence s = Sentence.of("Promise 15", "BAD if there is no such cell.");
        TrayBox box = Boxes.loose(3, 5, 12, "3x5x1;");
        box.letDown(0, 0, 0, false);
        for (int wrong : new int[] {-1, 5, 10, MIN, MAX}) {
            s.refuses(box, "seen(" + wrong + ", 0, true)", BAD, b -> b.seen(wrong, 0, true));
            s.refuses(box, "seen(" + wrong + ", 0, false)", BAD, b -> b.seen(wrong, 0, false));
            s.refuses(box, "seen(0, " + wrong + ", true)", BAD, b -> b.seen(0, wrong, true));
            s.refuses(box, "seen(0, " + wrong + ", false)", BAD, b -> b.seen(0, wrong, false));
        }
        s.refuses(box, "seen(3, 0, true)", BAD, b -> b.seen(3, 0, true));
        s.refuses(new TrayBox(), "seen(6, 0, false) of an empty box", BAD, b -> b.seen(6, 0, false));
        s.due("the last cell", box.seen(2, 4, true), 1);
    }
}
