/** Promises 24 and 25: the counts and the hash. */
final class CountSentences {
    private static final int BAD = TrayBox.BAD;
    private static final int MIN = Integer.MIN_VALUE, MAX = Integer.MAX_VALUE;
    private static final String[] COUNTS = {
        "0 for W,",
        "1 for L,",
        "2 for D,",
        "3 for the share,",
        "4 for the trays,",
        "5 for those in the box,",
        "6 for the free ones among them,",
        "7 for the height of the box,",
        "8 for its air,",
        "9 for its faults,",
        "10 for the sum of the lifts of the trays in it,",
        "11 for the characters of the text buffer,",
        "12 for the remembered states"};

    private CountSentences() {
    }

    static void run() {
        eachCount();
        countRefuses();
        hashOfNewObject();
        hashOfTrays();
        hashOfCells();
        hashOfPacking();
        hashOfPlaying();
    }

    private static void eachCount() {
        TrayBox filled = Boxes.loose(7, 5, 9, "3x2x2@1;2x2x1l@4;1x1x1@9;5x1x3@2;");
        filled.letDown(0, 1, 1, true);
        filled.letDown(1, 2, 2, false);
        filled.letDown(2, 3, 3, false);
        TrayBox full = Boxes.sized(10, 10, 30, 100, "10x10x9;10x10x9;10x10x9l;10x10x2@9;");
        full.pack();
        int[][] want = {
            {6, 7, 10, 6}, {6, 5, 10, 6}, {12, 9, 30, 12}, {50, 0, 100, 50}, {0, 4, 4, 2}, {0, 3, 4, 1}, {0, 1, 1, 1},
            {0, 5, 30, 1}, {0, 7 * 5 * 5 - 12 - 8 - 1, 0, 36 - 1}, {0, 3, 0, 0}, {0, 3, 6, 0}, {0, 33, 35, 0},
            {0, 6, 4, 3}};
        TrayBox[] boxes = {new TrayBox(), filled, full, loneTray()};
        for (int what = 0; what < COUNTS.length; what++) {
            Sentence s = Sentence.of("Promise 24", "Returns a count.", "what:", COUNTS[what], "Returns the count;");
            for (int i = 0; i < boxes.length; i++) {
                s.due("count(" + what + ") of the box " + i, boxes[i].count(what), want[what][i]);
            }
        }
    }

    private static TrayBox loneTray() {
        TrayBox box = Boxes.withTrays(2);
        box.letDown(0, 0, 0, false);
        return box;
    }

    private static void countRefuses() {
        Sentence s = Sentence.of("Promise 24", "BAD if what is out of range.");
        TrayBox box = Boxes.withTrays(1);
        for (int wrong : new int[] {-1, 13, MIN, MAX}) {
            s.refuses(box, "count(" + wrong + ")", BAD, b -> b.count(wrong));
        }
        s.due("count(0)", box.count(0), 6);
        s.due("count(12)", box.count(12), 1);
    }

    /** By the words alone: what it answers here does not hang on any other answer. */
    private static void hashOfNewObject() {
        Sentence s = Sentence.of("Promise 25", "Computes a hash. h is 43160 at first;",
                "then h becomes 31 * h + v (long arithmetic that overflows) for each of these values v, in this order:",
                "count(0) to count(12);", "Returns h.");
        long h = 43160L;
        for (int count : new int[] {6, 6, 12, 50, 0, 0, 0, 0, 0, 0, 0, 0, 0}) {
            h = 31L * h + count;
        }
        for (int cell = 0; cell < 36; cell++) {
            h = 31L * h - 9;
            h = 31L * h;
        }
        for (int what = 0; what < 4; what++) {
            h = 31L * h;
        }
        s.due("digest() of a new object", new TrayBox().digest(), h);
        s.due("the same hash once more", new TrayBox().digest(), h);
    }

    private static void hashOfTrays() {
        Sentence trays = Sentence.of("Promise 25", "for each tray tray() for 0 to 15,");
        TrayBox out = Boxes.loaded("1x2x3l@4;5x6x7@8;");
        trays.due("digest() with trays out of the box", out.digest(), Boxes.hash(out));
        Sentence places = Sentence.of("Promise 25", "and place() for 0 and 3 (also if they are STATE);");
        out.letDown(0, 3, 2, true);
        places.due("digest() with one in the box", out.digest(), Boxes.hash(out));
        TrayBox none = Boxes.sized(4, 3, 4, 50, "1x1x9;5x1x1;2x1x2;1x2x1;");
        none.letDown(2, 0, 0, false);
        places.due("digest() with some that have no place", none.digest(), Boxes.hash(none));
        TrayBox twelve = Boxes.loaded("2x1x1@9;1x3x1@1;2x2x1l@2;1x1x4@0;3x3x1@5;1x1x1@1;1x1x1@1;1x1x1@1;1x1x1@1;"
                + "1x1x1;1x1x1;1x1x1;");
        twelve.pack();
        trays.due("digest() with twelve in the box", twelve.digest(), Boxes.hash(twelve));
    }

    private static void hashOfCells() {
        Sentence s = Sentence.of("Promise 25", "for each x, for each y seen(x, y, false) and seen(x, y, true);");
        TrayBox box = Boxes.loose(2, 3, 9, "1x1x1;1x1x2;2x1x3;");
        box.letDown(0, 0, 0, false);
        box.letDown(1, 1, 2, false);
        s.due("digest() of a box that is longer than wide", box.digest(), Boxes.hash(box));
        box.setBox(3, 2, 9);
        box.letDown(2, 1, 1, false);
        s.due("digest() of a box that is wider than long", box.digest(), Boxes.hash(box));
    }

    private static void hashOfPacking() {
        Sentence s = Sentence.of("Promise 25", "ifPacked(false, what) for 0 to 3;");
        TrayBox box = Boxes.sized(3, 2, 2, 50, "1x2x2@0;2x1x1@1;1x3x1@0;");
        s.due("digest() when the best order comes to something else", box.digest(), Boxes.hash(box));
        TrayBox faults = Boxes.sized(2, 2, 5, 100, "1x1x1@2;2x1x1@1;1x2x2@1;2x2x1@0;2x2x1@3;");
        s.due("digest() with air and faults", faults.digest(), Boxes.hash(faults));
    }

    private static void hashOfPlaying() {
        Sentence s = Sentence.of("Promise 25", "for each tray that is in the box liftsTo().");
        TrayBox box = Boxes.loose(4, 4, 12, "1x1x1@3;1x1x1@2;1x1x1@1;1x1x1@6;1x1x1@5;1x1x1@4;");
        box.letDown(5, 0, 0, false);
        box.letDown(1, 0, 0, false);
        box.letDown(4, 0, 0, false);
        s.due("digest() of a pile, with others out of the box", box.digest(), Boxes.hash(box));
        box.play();
        s.due("digest() of an empty box", box.digest(), Boxes.hash(box));
    }
}
