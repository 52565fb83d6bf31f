/** "Packing", and promises 16 to 20. */
final class PackingSentences {
    private static final int BAD = TrayBox.BAD, STATE = TrayBox.STATE, NONE = TrayBox.NONE;
    private static final int MIN = Integer.MIN_VALUE, MAX = Integer.MAX_VALUE;

    private PackingSentences() {
    }

    static void run() {
        describedPlaces();
        bestPlace();
        packingByAnOrder();
        usualOrder();
        bestOrder();
        place();
        places();
        pack();
        packBest();
        ifPacked();
        ifPackedRefuses();
    }

    private static void describedPlaces() {
        Sentence place = Sentence.of("Packing",
                "A place for a tray that is out of the box is an x, a y and a way (0 not turned, 1 turned;");
        TrayBox box = Boxes.loose(4, 5, 9, "3x1x1;2x2x1;4x5x1;5x4x1;");
        place.due("not turned and turned", box.places(0), 2 * 5 + 4 * 3);
        place.due("as large as the box", box.places(2), 1);
        place.due("as large as the box, turned", box.places(3), 1);
        place.due("the way of the turned one", box.place(3, 2), 1);
        Sentence square = Sentence.of("Packing", "for trays that are as long as wide only the way 0 counts,");
        square.due("places(1)", box.places(1), 3 * 4);
        square.due("its way", box.place(1, 2), 0);
        Sentence turned = Sentence.of("Packing", "though letDown() can turn them)");
        turned.due("letDown(1, 0, 0, true)", box.letDown(1, 0, 0, true), 0);
        turned.due("tray(1, 6)", box.tray(1, 6), 1);
        Sentence can = Sentence.of("Packing", "at which it can be let down.");
        TrayBox tried = Boxes.sized(4, 3, 4, 50, "2x1x2;1x2x3;3x2x2;2x1x1;");
        tried.letDown(0, 1, 0, false);
        tried.letDown(1, 3, 1, false);
        can.due("places of 3 by 2", tried.places(2), triedPlaces(tried, 2));
        can.due("places of 2 by 1", tried.places(3), triedPlaces(tried, 3));
        tried.setTray(3, 1, 1);
        can.due("places of 2 by 1 with a lid", tried.places(3), triedPlaces(tried, 3));
    }

    private static int triedPlaces(TrayBox box, int tray) {
        int possible = 0;
        for (int x = 0; x < box.count(0); x++) {
            for (int y = 0; y < box.count(1); y++) {
                for (int way = 0; way < 2; way++) {
                    if (box.letDown(tray, x, y, way == 1) >= 0) {
                        possible++;
                        box.takeOut(tray);
                    }
                }
            }
        }
        return possible;
    }

    private static void due(Sentence s, TrayBox box, int tray, int x, int y, int way, int top) {
        int[] want = {x, y, way, top};
        for (int what = 0; what < 4; what++) {
            s.due("place(" + tray + ", " + what + ")", box.place(tray, what), want[what]);
        }
    }

    private static void bestPlace() {
        TrayBox box = Boxes.loose(4, 3, 12, "4x2x2;3x1x3l;");
        box.letDown(0, 0, 0, false);
        Sentence top = Sentence.of("Packing", "The best place is the one with the smallest top,");
        due(top, box, 1, 0, 2, 0, 4);
        Sentence y = Sentence.of("Packing", "of several the one with the smallest y,");
        TrayBox one = Boxes.loose(4, 3, 12, "1x1x1;3x1x1;");
        one.letDown(0, 0, 0, false);
        due(y, one, 1, 1, 0, 0, 1);
        Sentence x = Sentence.of("Packing", "then the smallest x,");
        TrayBox middle = Boxes.loose(4, 3, 12, "1x1x1;2x1x1;");
        middle.letDown(0, 1, 0, false);
        due(x, middle, 1, 0, 0, 1, 1);
        Sentence way = Sentence.of("Packing", "then the smallest way.");
        due(way, Boxes.loose(2, 2, 12, "2x1x1;"), 0, 0, 0, 0, 1);
        due(way, Boxes.loose(2, 2, 12, "1x2x1;"), 0, 0, 0, 0, 1);
        due(way, Boxes.loose(2, 3, 12, "3x1x1;"), 0, 0, 0, 1, 1);
    }

    private static void packingByAnOrder() {
        TrayBox box = Boxes.sized(3, 2, 2, 50, "1x1x1@9;3x1x1@8;2x2x1@7;3x2x2@6;1x1x2@5;");
        box.letDown(0, 2, 1, false);
        box.letDown(4, 0, 0, false);
        box.pack();
        Sentence emptied = Sentence.of("Packing",
                "To pack by an order of trays means: the box is emptied,");
        emptied.due("the x of the first one", box.tray(0, 7), 0);
        emptied.due("the y of the first one", box.tray(0, 8), 0);
        Sentence each = Sentence.of("Packing", "and the trays are let down one after the other,");
        each.due("the second one beside the first one", box.tray(1, 8), 1);
        each.due("its floor", box.tray(1, 9), 0);
        each.due("the third one on both of them", box.tray(2, 9), 1);
        each.due("the last one when one before it had no place", box.tray(4, 7), 2);
        Sentence best = Sentence.of("Packing", "each at its best place (turned as the way says);");
        best.due("the x of the third one", box.tray(2, 7), 0);
        best.due("the y of the last one", box.tray(4, 8), 0);
        int[] rests = {1, 3, 3, NONE, 1};
        for (int tray = 0; tray < 5; tray++) {
            best.due("the cells on which the tray " + tray + " rests", box.tray(tray, 15), rests[tray]);
        }
        TrayBox narrow = Boxes.loose(2, 5, 9, "4x1x1;1x2x1;");
        narrow.letDown(1, 0, 0, true);
        narrow.pack();
        best.due("turned", narrow.tray(0, 6), 1);
        best.due("not turned any more", narrow.tray(1, 6), 0);
        Sentence out = Sentence.of("Packing", "a tray without a place stays out,");
        out.due("the fourth one", box.tray(3, 5), 0);
        Sentence turned = Sentence.of("Packing", "and is not turned.");
        TrayBox full = Boxes.sized(2, 3, 2, 0, "2x3x2@1;3x1x1@0;");
        full.letDown(1, 0, 0, true);
        full.pack();
        turned.due("tray(1, 5)", full.tray(1, 5), 0);
        turned.due("tray(1, 6)", full.tray(1, 6), 0);
    }

    private static void order(Sentence s, boolean best, TrayBox box, int... want) {
        for (int k = 0; k < want.length; k++) {
            s.due("ifPacked(" + best + ", " + (10 + k) + ")", box.ifPacked(best, 10 + k), want[k]);
        }
    }

    private static void usualOrder() {
        Sentence turns = Sentence.of("Packing", "The usual order is by descending turns,");
        order(turns, false, Boxes.loaded("9x9x9@0;1x1x1@9;5x5x1@4;1x1x1@5;"), 1, 3, 2, 0);
        Sentence areas = Sentence.of("Packing", "those with the same turn by descending width * length,");
        order(areas, false, Boxes.loaded("1x5x9@3;2x3x1@3;1x1x9@3;7x1x1@3;"), 3, 1, 0, 2);
        Sentence numbers = Sentence.of("Packing", "then by ascending numbers.");
        order(numbers, false, Boxes.loaded("1x4x1@3;2x2x9l@3;4x1x5@3;1x5x1@3;"), 3, 0, 1, 2);
        order(numbers, false, Boxes.withTrays(12), 0, 1, 2, 3, 4, 5, 6, 7, 8, 9, 10, 11);
    }

    /** Each criterion decides, where any other one after it, or none at all, would lead to something else. */
    private static void bestOrder() {
        Sentence out = Sentence.of("Packing", "Orders of trays are compared by what packing comes to:"
                + " fewer trays that stay out are better,");
        best(out, Boxes.sized(3, 2, 2, 50, "1x2x2@0;2x1x1@1;1x3x1@0;"), new int[] {2, 0, 1}, 0, 1, 2, 3);
        Sentence faults = Sentence.of("Packing", "then fewer faults,");
        best(faults, Boxes.sized(2, 2, 5, 100, "2x1x1@0;1x2x2@0;1x1x1@1;"), new int[] {0, 2, 1}, 0, 0, 3, 5);
        Sentence height = Sentence.of("Packing", "then less height,");
        best(height, Boxes.sized(2, 2, 2, 0, "2x2x2@0;1x1x1@1;1x2x3@0;"), new int[] {1, 0, 2}, 2, 0, 1, 3);
        Sentence air = Sentence.of("Packing", "then less air,");
        best(air, Boxes.sized(2, 2, 1, 50, "1x1x1@0;1x2x1@0;1x2x1@1;"), new int[] {1, 2, 0}, 1, 0, 1, 0);
        Sentence numbers = Sentence.of("Packing", "and then the lexicographically first order by numbers.");
        best(numbers, Boxes.loaded("1x1x1@4;1x1x1@3;1x1x1@2;1x1x1@1;1x1x1@0;"), new int[] {0, 1, 2, 3, 4}, 0, 0, 1, 31);
        best(numbers, Boxes.loose(2, 2, 9, "2x2x1@1;2x2x1@2;2x2x1@1;2x2x1@2;"), new int[] {1, 3, 0, 2}, 0, 0, 4, 0);
        best(numbers, Boxes.loose(2, 2, 9, "2x2x1@0;2x2x1@1;2x2x1@2;2x2x1@3;2x2x1@4;"), new int[] {4, 3, 2, 1, 0},
                0, 0, 5, 0);
    }

    private static void best(Sentence s, TrayBox box, int[] want, int... figures) {
        order(s, true, box, want);
        for (int what = 0; what < 4; what++) {
            s.due("ifPacked(true, " + what + ")", box.ifPacked(true, what), figures[what]);
        }
        s.due("packBest()", box.packBest(), figures[0]);
        for (int what = 1; what < 4; what++) {
            s.due("the figure " + what + " of the packed box", box.count(new int[] {5, 9, 7, 8}[what]), figures[what]);
        }
    }

    private static void place() {
        TrayBox box = Boxes.sized(6, 6, 12, 50, "6x5x2;1x3x4l;7x1x1;1x1x9l;1x1x9;5x5x1;");
        box.letDown(0, 0, 0, true);
        Sentence s = Sentence.of("Promise 16", "Finds the best place of a tray.", "Returns the number;",
                "tray: the tray",
                "what: 0 for its x, 1 for its y, 2 for its way, 3 for the top that the tray would have");
        due(s, box, 1, 5, 0, 0, 5);
        due(s, box, 5, 0, 0, 0, 3);
        s.due("nothing is let down", box.count(5), 1);
        Sentence none = Sentence.of("Promise 16", "NONE if it has no place;");
        box.letDown(4, 5, 5, false);
        for (int what = 0; what < 4; what++) {
            none.due("place(2, " + what + ") of one that is too long", box.place(2, what), NONE);
        }
        box.setBox(6, 6, 9);
        for (int what = 0; what < 4; what++) {
            none.due("place(3, " + what + ") of one that is too high", box.place(3, what), NONE);
        }
        none.due("place(4, 3) of one that just fits", box.place(4, 3), 9);
        Sentence bad = Sentence.of("Promise 16", "BAD if there is no such tray or what is out of range;");
        box.letDown(0, 0, 0, false);
        for (int wrong : new int[] {-1, 6, 12, MIN, MAX}) {
            bad.refuses(box, "place(" + wrong + ", 0)", BAD, b -> b.place(wrong, 0));
        }
        for (int wrong : new int[] {-1, 4, MIN, MAX}) {
            bad.refuses(box, "place(1, " + wrong + ")", BAD, b -> b.place(1, wrong));
            bad.refuses(box, "place(0, " + wrong + ") of one in the box", BAD, b -> b.place(0, wrong));
            bad.refuses(box, "place(2, " + wrong + ") of one without a place", BAD, b -> b.place(2, wrong));
        }
        Sentence state = Sentence.of("Promise 16", "STATE if it is in the box.");
        for (int i = 0; i < 4; i++) {
            int what = i;
            state.refuses(box, "place(0, " + what + ")", STATE, b -> b.place(0, what));
        }
    }

    private static void places() {
        Sentence s = Sentence.of("Promise 17", "Counts the places of a tray.", "tray: the tray", "Returns the number;");
        TrayBox large = Boxes.loose(10, 10, 30, "1x1x1;2x1x1;10x10x9;1x10x1;");
        s.due("of one cell in the largest box", large.places(0), 100);
        s.due("of two cells", large.places(1), 90 + 90);
        s.due("of the largest tray", large.places(2), 1);
        s.due("of a whole row", large.places(3), 20);
        TrayBox none = Boxes.loaded("7x1x1;1x1x9l;6x6x9;1x1x3;1x1x4;");
        s.due("of one that is too long", none.places(0), 0);
        none.letDown(2, 0, 0, false);
        s.due("of one that is too high there", none.places(4), 0);
        s.due("of one that just fits there", none.places(3), 36);
        Sentence bad = Sentence.of("Promise 17", "BAD if there is no such tray;");
        for (int wrong : new int[] {-1, 5, 12, MIN, MAX}) {
            bad.refuses(none, "places(" + wrong + ")", BAD, b -> b.places(wrong));
        }
        Sentence state = Sentence.of("Promise 17", "STATE if it is in the box.");
        state.refuses(none, "places(2)", STATE, b -> b.places(2));
    }

    private static void pack() {
        TrayBox box = Boxes.sized(3, 3, 3, 50, "1x1x1@0;3x2x2@4;3x3x1@4;4x1x1@9;2x2x3l@9;");
        box.letDown(1, 0, 0, true);
        Sentence change = Sentence.of("Promise 18", "This is a change.");
        change.isChange(box, "pack()", TrayBox::pack);
        Sentence out = Sentence.of("Promise 18", "Returns how many trays stay out.");
        out.due("two that are too long or too high", box.pack(), 2);
        Sentence packs = Sentence.of("Promise 18", "Packs all trays by the usual order.");
        packs.due("the floor of the larger one of turn 4", box.tray(2, 9), 0);
        packs.due("the floor of the smaller one of turn 4", box.tray(1, 9), 1);
        packs.due("the floor of the one of turn 0", box.tray(0, 9), 1);
        packs.due("its y", box.tray(0, 8), 2);
        change.isChange(box, "pack() once more", TrayBox::pack);
        change.isChange(new TrayBox(), "pack() without trays", TrayBox::pack);
        out.due("of no trays", new TrayBox().pack(), 0);
        TrayBox none = Boxes.sized(2, 2, 1, 50, "1x1x2;".repeat(12));
        out.due("of twelve trays without a place", none.pack(), 12);
        TrayBox all = Boxes.loaded(Boxes.text(12));
        out.due("of twelve trays with a place", all.pack(), 0);
        packs.due("twelve trays in the box", all.count(5), 12);
    }

    private static void packBest() {
        TrayBox box = Boxes.sized(3, 2, 2, 50, "1x2x2@0;2x1x1@1;1x3x1@0;");
        box.letDown(2, 0, 0, true);
        Sentence change = Sentence.of("Promise 19", "This is a change.");
        change.isChange(box, "packBest()", TrayBox::packBest);
        Sentence out = Sentence.of("Promise 19", "Returns how many trays stay out;");
        out.due("by the best order", box.packBest(), 0);
        Sentence packs = Sentence.of("Promise 19", "Packs all trays by the best one of all orders.");
        int[][] want = {{0, 1, 1, 0}, {0, 0, 0, 1}, {0, 0, 1, 0}};
        for (int tray = 0; tray < 3; tray++) {
            packs.due("the x of the tray " + tray, box.tray(tray, 7), want[tray][0]);
            packs.due("the y of the tray " + tray, box.tray(tray, 8), want[tray][1]);
            packs.due("the way of the tray " + tray, box.tray(tray, 6), want[tray][2]);
            packs.due("the floor of the tray " + tray, box.tray(tray, 9), want[tray][3]);
        }
        change.isChange(box, "packBest() once more", TrayBox::packBest);
        change.isChange(new TrayBox(), "packBest() without trays", TrayBox::packBest);
        out.due("of no trays", new TrayBox().packBest(), 0);
        out.due("of one without a place", Boxes.loaded("7x1x1;").packBest(), 1);
        Sentence state = Sentence.of("Promise 19", "STATE if there are more than 5 trays.");
        state.refuses(Boxes.withTrays(6), "packBest() of six", STATE, TrayBox::packBest);
        state.refuses(Boxes.withTrays(12), "packBest() of twelve", STATE, TrayBox::packBest);
        state.due("packBest() of five", Boxes.withTrays(5).packBest(), 0);
        TrayBox dropped = Boxes.withTrays(6);
        dropped.drop(5);
        state.due("packBest() of five of six", dropped.packBest(), 0);
    }

    private static void ifPacked() {
        TrayBox box = Boxes.sized(3, 2, 2, 50, "1x2x2@0;2x1x1@1;1x3x1@0;");
        box.letDown(2, 0, 0, true);
        long before = box.digest();
        Sentence tells = Sentence.of("Promise 20", "Tells what packing would come to.", "Returns the number;",
                "best: whether the best order is meant, or else the usual one",
                "what: 0 for the trays that would stay out, 1 for the faults, 2 for the height, 3 for the air,");
        int[] best = {0, 1, 2, 3};
        int[] usual = {1, 0, 1, 1};
        for (int what = 0; what < 4; what++) {
            tells.due("ifPacked(true, " + what + ")", box.ifPacked(true, what), best[what]);
            tells.due("ifPacked(false, " + what + ")", box.ifPacked(false, what), usual[what]);
        }
        Sentence kth = Sentence.of("Promise 20",
                "10 + k for the k-th tray of the order, from 0 (any number of 10 and more)");
        order(kth, true, box, 2, 0, 1);
        order(kth, false, box, 1, 2, 0);
        Sentence none = Sentence.of("Promise 20", "NONE if there are not so many trays;");
        for (int what : new int[] {13, 14, 22, 1000, MAX}) {
            none.due("ifPacked(true, " + what + ")", box.ifPacked(true, what), NONE);
            none.due("ifPacked(false, " + what + ")", box.ifPacked(false, what), NONE);
        }
        none.due("ifPacked(true, 10) without trays", new TrayBox().ifPacked(true, 10), NONE);
        none.due("ifPacked(false, 10) without trays", new TrayBox().ifPacked(false, 10), NONE);
        TrayBox twelve = Boxes.withTrays(12);
        kth.due("the last one of twelve", twelve.ifPacked(false, 21), 11);
        none.due("no thirteenth one", twelve.ifPacked(false, 22), NONE);
        Sentence same = Sentence.of("Promise 20", "Nothing changes.");
        same.due("digest() before and after", box.digest(), before);
        same.due("undo()", box.undo(), 3);
        for (int what = 0; what < 4; what++) {
            tells.due("ifPacked(true, " + what + ") without trays", new TrayBox().ifPacked(true, what), 0);
            tells.due("ifPacked(false, " + what + ") without trays", new TrayBox().ifPacked(false, what), 0);
        }
    }

    private static void ifPackedRefuses() {
        Sentence bad = Sentence.of("Promise 20", "BAD if what is none of these;");
        TrayBox five = Boxes.withTrays(5);
        TrayBox six = Boxes.withTrays(6);
        for (int wrong : new int[] {-1, 4, 9, -10, MIN, MIN + 9, MIN + 10}) {
            bad.refuses(five, "ifPacked(true, " + wrong + ")", BAD, b -> b.ifPacked(true, wrong));
            bad.refuses(five, "ifPacked(false, " + wrong + ")", BAD, b -> b.ifPacked(false, wrong));
            bad.refuses(six, "ifPacked(true, " + wrong + ") of six", BAD, b -> b.ifPacked(true, wrong));
        }
        Sentence state = Sentence.of("Promise 20", "STATE if best is true and there are more than 5 trays.");
        for (int what : new int[] {0, 3, 10, 15, 16, MAX}) {
            state.refuses(six, "ifPacked(true, " + what + ")", STATE, b -> b.ifPacked(true, what));
        }
        state.due("ifPacked(false, 15) of six", six.ifPacked(false, 15), 5);
        state.due("ifPacked(true, 14) of five", five.ifPacked(true, 14), 4);
    }
}
