/** "Letting down", and promises 11 and 12. */
final class LettingDownSentences {
    private static final int BAD = TrayBox.BAD, STATE = TrayBox.STATE, FULL = TrayBox.FULL;
    private static final int MIN = Integer.MIN_VALUE, MAX = Integer.MAX_VALUE;

    private LettingDownSentences() {
    }

    static void run() {
        coveredCells();
        cellsOfTheBox();
        floors();
        rests();
        fits();
        stands();
        shares();
        fitsAndStands();
        liesOn();
        liesBeside();
        freeTrays();
        above();
        late();
        sums();
        heightAndAir();
        letDown();
        letDownArguments();
        letDownRefuses();
        takeOut();
        takeOutRefuses();
    }

    private static void coveredCells() {
        Sentence s = Sentence.of("Letting down", "A tray that is let down at x, y covers the cells from x and y on,"
                + " as many as its width and its length say;");
        TrayBox box = Boxes.loaded("2x3x1;1x1x4;");
        box.letDown(0, 1, 2, false);
        box.letDown(1, 0, 5, false);
        for (int x = 0; x < 6; x++) {
            for (int y = 0; y < 6; y++) {
                boolean isCovered = x >= 1 && x < 1 + 2 && y >= 2 && y < 2 + 3;
                int one = x == 0 && y == 5 ? 4 : 0;
                s.due("seen(" + x + ", " + y + ", true)", box.seen(x, y, true), isCovered ? 1 : one);
            }
        }
    }

    private static void cellsOfTheBox() {
        Sentence s = Sentence.of("Letting down", "all of them must be cells of the box.");
        TrayBox box = Boxes.loose(5, 4, 9, "2x3x1;5x4x1;6x1x1;");
        s.refuses(box, "one column too far", BAD, b -> b.letDown(0, 4, 1, false));
        s.refuses(box, "one row too far", BAD, b -> b.letDown(0, 3, 2, false));
        s.refuses(box, "one column before the box", BAD, b -> b.letDown(0, -1, 1, false));
        s.refuses(box, "one row before the box", BAD, b -> b.letDown(0, 3, -1, false));
        s.due("the last place", box.letDown(0, 3, 1, false), 0);
        box.takeOut(0);
        s.refuses(box, "turned, one column too far", BAD, b -> b.letDown(0, 3, 2, true));
        s.refuses(box, "turned, one row too far", BAD, b -> b.letDown(0, 2, 3, true));
        s.due("the last place, turned", box.letDown(0, 2, 2, true), 0);
        s.due("as large as the box", box.letDown(1, 0, 0, false), 1);
        s.refuses(box, "wider than the box", BAD, b -> b.letDown(2, 0, 0, false));
        s.refuses(box, "longer than the box", BAD, b -> b.letDown(2, 0, 0, true));
    }

    private static void floors() {
        TrayBox box = Boxes.loose(6, 6, 30, "1x1x3;1x1x1;1x1x9;2x1x2l;1x1x1;");
        Sentence none = Sentence.of("Letting down", "or 0 if there are none;");
        none.due("in an empty box", box.letDown(0, 0, 0, false), 0);
        none.due("beside another one", box.letDown(1, 1, 0, false), 0);
        none.due("at a corner of another one", box.letDown(2, 2, 1, false), 0);
        Sentence greatest = Sentence.of("Letting down",
                "Its floor is the greatest top of the trays in the box that cover one of these cells,");
        greatest.due("on 3 and 1, beside 9", box.letDown(3, 0, 0, false), 3);
        Sentence top = Sentence.of("Letting down", "its top is its floor plus its height (with the lid).");
        top.due("tray(3, 10)", box.tray(3, 10), 3 + 2 + 1);
        top.due("tray(2, 10)", box.tray(2, 10), 9);
        greatest.due("on its lid, above the lower one", box.letDown(4, 1, 0, false), 6);
        box.takeOut(4);
        box.takeOut(3);
        greatest.due("when it is out of the box", box.letDown(4, 1, 0, false), 1);
    }

    private static void rests() {
        Sentence cells = Sentence.of("Letting down",
                "It rests on those of its cells at which a tray in the box has its floor as its top,");
        TrayBox box = Boxes.loose(6, 6, 30, "1x1x2;1x1x1;1x1x1;1x1x1;4x1x1;2x2x2;6x6x1;");
        box.letDown(0, 0, 0, false);
        box.letDown(1, 1, 0, false);
        box.letDown(2, 1, 0, false);
        box.letDown(3, 2, 0, false);
        cells.due("on 2, 2, 1 and 0", box.letDown(4, 0, 0, false), 2);
        cells.due("tray(4, 15)", box.tray(4, 15), 2);
        box.letDown(5, 4, 4, false);
        box.letDown(6, 0, 0, false);
        cells.due("all cells of the higher one", box.tray(6, 15), 4);
        Sentence ground = Sentence.of("Letting down", "or on all of its cells if its floor is 0.");
        ground.due("one cell", box.tray(0, 15), 1);
        ground.due("four cells", box.tray(5, 15), 4);
        TrayBox large = Boxes.sized(10, 10, 9, 100, "10x10x9;");
        ground.due("a hundred cells, all of which are wanted", large.letDown(0, 0, 0, false), 0);
        ground.due("tray(0, 15)", large.tray(0, 15), 100);
    }

    private static void fits() {
        Sentence s = Sentence.of("Letting down", "It fits if its top is at most D,");
        TrayBox box = Boxes.loose(2, 2, 9, "1x1x4;1x1x5;1x1x6;1x1x9;");
        box.letDown(0, 0, 0, false);
        s.refuses(box, "a top of D + 1", FULL, b -> b.letDown(2, 0, 0, false));
        s.due("a top of D", box.letDown(1, 0, 0, false), 4);
        box.setTray(3, 1, 1);
        s.refuses(box, "D + 1 by a lid, on the ground", FULL, b -> b.letDown(3, 1, 1, false));
        box.setTray(3, 1, 0);
        s.due("D on the ground", box.letDown(3, 1, 1, false), 0);
    }

    private static void stands() {
        Sentence s = Sentence.of("Letting down",
                "and stands if 100 * (the cells on which it rests) is at least share * (all its cells);");
        share(s, "a third", 33, "1x1x1;3x1x1;");
        share(s, "a half", 50, "1x1x1;2x1x1;");
        share(s, "two thirds", 66, "2x1x1;3x1x1;");
        share(s, "a quarter", 25, "1x1x1;2x2x1;");
        share(s, "four ninths", 44, "2x2x1;3x3x1;");
        share(s, "one of a hundred", 1, "1x1x1;10x10x1;");
        share(s, "90 of a hundred", 90, "10x9x1;10x10x1;");
    }

    /** The second tray stands on the first one by so many of 100, and not by one more. */
    private static void share(Sentence s, String part, int most, String text) {
        TrayBox box = Boxes.sized(10, 10, 12, most + 1, text);
        box.letDown(0, 0, 0, false);
        s.refuses(box, part + ", of which " + (most + 1) + " is wanted", FULL, b -> b.letDown(1, 0, 0, false));
        box.setShare(most);
        s.due(part + ", of which " + most + " is wanted", box.letDown(1, 0, 0, false), 1);
    }

    private static void shares() {
        Sentence range = Sentence.of("Letting down", "the share is 0 to 100");
        TrayBox box = Boxes.loaded("1x1x1;10x10x1;9x9x1;9x9x1;");
        box.setBox(10, 10, 12);
        range.refuses(box, "setShare(-1)", BAD, b -> b.setShare(-1));
        range.refuses(box, "setShare(101)", BAD, b -> b.setShare(101));
        box.letDown(0, 9, 9, false);
        range.due("setShare(0)", box.setShare(0), 50);
        range.due("by one cell of a hundred", box.letDown(1, 0, 0, false), 1);
        range.due("setShare(100)", box.setShare(100), 0);
        range.due("by all cells", box.letDown(2, 0, 0, false), 2);
        range.refuses(box, "by all but some cells", FULL, b -> b.letDown(3, 1, 0, false));
        Sentence initial = Sentence.of("Letting down", "(initially 50).");
        TrayBox fresh = Boxes.loaded("1x1x1;2x1x1;3x1x1;");
        initial.due("count(3)", fresh.count(3), 50);
        fresh.letDown(0, 0, 0, false);
        initial.refuses(fresh, "by a third", FULL, b -> b.letDown(2, 0, 0, false));
        initial.due("by a half", fresh.letDown(1, 0, 0, false), 1);
    }

    private static void fitsAndStands() {
        Sentence s = Sentence.of("Letting down", "It can be let down if it fits and stands.");
        TrayBox box = Boxes.sized(6, 6, 3, 60, "1x1x1;2x1x2;1x1x3;2x1x3;1x1x2;");
        box.letDown(0, 0, 0, false);
        s.refuses(box, "it fits, and does not stand", FULL, b -> b.letDown(1, 0, 0, false));
        s.refuses(box, "it stands, and does not fit", FULL, b -> b.letDown(2, 0, 0, false));
        s.refuses(box, "it neither fits nor stands", FULL, b -> b.letDown(3, 0, 0, false));
        s.due("it fits and stands", box.letDown(4, 0, 0, false), 1);
        s.due("the places of another one, all of them on the ground", box.places(1), 60 - 2);
    }

    private static void liesOn() {
        TrayBox box = Boxes.loose(6, 6, 30, "2x2x1;2x2x2;2x2x1;1x1x1;");
        box.letDown(0, 0, 0, false);
        box.letDown(1, 2, 0, false);
        Sentence common = Sentence.of("Letting down", "A tray lies on another one if both cover some cell together,");
        common.due("nothing lies on the first one", box.tray(0, 13), 1);
        box.letDown(2, 1, 1, false);
        common.due("the third one lies on the first one by one cell", box.tray(0, 14), 4);
        common.due("and on the second one", box.tray(1, 14), 4);
        box.letDown(3, 3, 0, false);
        common.due("the fourth one does not lie on the third one", box.tray(2, 13), 1);
        Sentence least = Sentence.of("Letting down", "and its floor is at least the top of the other one.");
        least.due("the third one is 1 above the top of the first one", box.tray(2, 9) - box.tray(0, 10), 1);
        least.due("the third one has the top of the second one as its floor", box.tray(2, 9), box.tray(1, 10));
        least.due("it is on the first one all the same", box.tray(0, 13), 0);
        least.due("the first one does not lie on it", box.tray(2, 14), 0);
        Sentence in = Sentence.of("Letting down", "both are in the box,");
        box.takeOut(2);
        in.due("the first one when the third one is out", box.tray(0, 14), 0);
        in.due("the second one when the third one is out", box.tray(1, 14), 8);
        in.due("the third one when it is out", box.tray(2, 14), TrayBox.NONE);
    }

    private static void liesBeside() {
        Sentence s = Sentence.of("Letting down", "A tray lies on another one if both cover some cell together,");
        TrayBox box = Boxes.loose(6, 6, 30, "2x2x3;2x2x1;" + "1x1x1;".repeat(8));
        box.letDown(0, 2, 2, false);
        box.letDown(1, 2, 2, false);
        int[][] around = {{1, 2}, {4, 3}, {3, 1}, {2, 4}, {1, 1}, {4, 1}, {1, 4}, {4, 4}};
        for (int i = 0; i < around.length; i++) {
            box.letDown(2 + i, around[i][0], around[i][1], false);
            s.due("nothing lies on the one at " + around[i][0] + ", " + around[i][1], box.tray(2 + i, 13), 1);
        }
        s.due("only one lies on the one in the middle", box.tray(0, 14), 2);
    }

    private static void freeTrays() {
        TrayBox box = Boxes.loose(6, 6, 30, "1x1x1;1x1x2;2x1x1;2x1x1;");
        box.letDown(0, 0, 0, false);
        box.letDown(1, 1, 0, false);
        box.letDown(2, 0, 0, false);
        box.letDown(3, 1, 0, false);
        int[] floors = {0, 0, 2, 3};
        int[] free = {0, 0, 0, 1};
        Sentence s = Sentence.of("Letting down", "A tray is free if no tray lies on it.");
        for (int tray = 0; tray < 4; tray++) {
            s.due("tray(" + tray + ", 13)", box.tray(tray, 13), free[tray]);
        }
        Sentence only = Sentence.of("Letting down", "Only free trays are taken out;");
        only.refuses(box, "takeOut(0) below air", STATE, b -> b.takeOut(0));
        only.refuses(box, "takeOut(1)", STATE, b -> b.takeOut(1));
        only.refuses(box, "takeOut(2)", STATE, b -> b.takeOut(2));
        only.due("takeOut(3)", box.takeOut(3), 3);
        Sentence never = Sentence.of("Letting down", "so the others never change their floors.");
        only.due("takeOut(2)", box.takeOut(2), 2);
        box.letDown(3, 0, 0, false);
        box.letDown(2, 0, 1, false);
        box.takeOut(2);
        never.due("tray(0, 9)", box.tray(0, 9), floors[0]);
        never.due("tray(1, 9)", box.tray(1, 9), floors[1]);
        never.due("tray(3, 9)", box.tray(3, 9), 2);
        never.due("tray(3, 15)", box.tray(3, 15), 1);
    }

    private static void above() {
        TrayBox box = Boxes.loose(6, 2, 20, "2x1x1;2x1x1;2x1x1;2x1x1;1x1x1;");
        for (int tray = 3; tray >= 0; tray--) {
            box.letDown(tray, 3 - tray, 0, false);
        }
        box.letDown(4, 5, 0, false);
        Sentence on = Sentence.of("Letting down", "The trays above a tray are those that lie on it,");
        on.due("above the last but one", box.tray(1, 14), 1);
        on.due("above the last one", box.tray(0, 14), 0);
        on.due("above the one beside them", box.tray(4, 14), 0);
        Sentence chain = Sentence.of("Letting down", "and those that lie on a tray above it.");
        chain.due("above the second one", box.tray(2, 14), 1 + 2);
        chain.due("above the first one", box.tray(3, 14), 1 + 2 + 4);
        TrayBox middle = Boxes.loose(6, 2, 20, "2x1x1;2x1x1;2x1x1;");
        middle.letDown(2, 0, 0, false);
        middle.letDown(0, 1, 0, false);
        middle.letDown(1, 2, 0, false);
        chain.due("by way of the tray 0", middle.tray(2, 14), 1 + 2);
        TrayBox tower = Boxes.loose(10, 2, 30, "2x1x1;".repeat(12));
        for (int k = 0; k < 12; k++) {
            tower.letDown(k * 5 % 12, Math.min(k, 8), 0, false);
        }
        chain.due("eleven trays above one", tower.tray(0, 14), 4095 - 1);
        Sentence get = Sentence.of("Letting down", "To get a tray, all trays above it have to be lifted.");
        get.due("of the first tray that is got", tower.liftsTo(0), 11);
    }

    private static void late() {
        Sentence s = Sentence.of("Letting down",
                "A tray above it is late if its turn is greater than that of the tray.");
        TrayBox box = Boxes.loose(2, 2, 30, "1x1x1@4;1x1x1@5;1x1x1@4;1x1x1@3;1x1x1@9;");
        for (int tray = 0; tray < 5; tray++) {
            box.letDown(tray, 0, 0, false);
        }
        Sentence lift = Sentence.of("Letting down", "The lift of a tray is the number of the trays above it,");
        Sentence fault = Sentence.of("Letting down", "its fault is the number of the late ones among them.");
        int[] faults = {2, 1, 1, 1, 0};
        for (int tray = 0; tray < 5; tray++) {
            lift.due("tray(" + tray + ", 11)", box.tray(tray, 11), 4 - tray);
            fault.due("tray(" + tray + ", 12)", box.tray(tray, 12), faults[tray]);
        }
        box.takeOut(4);
        s.due("a turn of 5 above one of 4", box.tray(0, 12), 1);
        s.due("a turn of 4 and one of 3 above one of 5", box.tray(1, 12), 0);
        box.setTray(1, 0, 4);
        s.due("the same turn above", box.tray(0, 12), 0);
        box.setTray(0, 0, 0);
        box.setTray(1, 0, 9);
        s.due("three greater turns above one of 0", box.tray(0, 12), 3);
        s.due("no greater one above one of 9", box.tray(1, 12), 0);
        TrayBox first = Boxes.loose(2, 2, 30, "1x1x1@5;1x1x1@4;");
        first.letDown(1, 0, 0, false);
        first.letDown(0, 0, 0, false);
        s.due("the tray 0 above another one", first.tray(1, 12), 1);
    }

    private static void sums() {
        Sentence s = Sentence.of("Letting down", "The faults of a box are the sum of the faults of all trays in it.");
        TrayBox box = Boxes.loose(6, 6, 30, "1x1x1@0;1x1x1@5;1x1x1@9;1x1x1@0;1x1x1@1;1x1x1@9;");
        s.due("of an empty box", box.count(9), 0);
        box.letDown(0, 0, 0, false);
        box.letDown(1, 0, 0, false);
        box.letDown(2, 0, 0, false);
        s.due("of a pile", box.count(9), 2 + 1);
        box.letDown(3, 5, 5, false);
        box.letDown(4, 5, 5, false);
        s.due("of two piles", box.count(9), 3 + 1);
        box.takeOut(2);
        s.due("without the one on top", box.count(9), 1 + 1);
        TrayBox worst = Boxes.loose(2, 2, 30, "1x1x1@0;1x1x1@1;1x1x1@2;1x1x1@3;1x1x1@4;1x1x1@5;1x1x1@6;1x1x1@7;"
                + "1x1x1@8;1x1x1@9;");
        for (int tray = 0; tray < 10; tray++) {
            worst.letDown(tray, 1, 1, false);
        }
        s.due("of ten trays, each of them late above all below it", worst.count(9), 45);
    }

    private static void heightAndAir() {
        Sentence empty = Sentence.of("Letting down", "(0 if it is empty).");
        Sentence height = Sentence.of("Letting down", "The height of a box is the greatest top of the trays in it");
        Sentence air = Sentence.of("Letting down", "The air of a box is W * L * height minus the sum of"
                + " width * length * height (with the lid) of the trays in it.");
        TrayBox box = Boxes.loose(3, 2, 30, "1x1x4;2x1x1l;1x1x9;3x2x2;");
        empty.due("the height of an empty box", box.count(7), 0);
        air.due("the air of an empty box", box.count(8), 0);
        box.letDown(0, 0, 0, false);
        height.due("the height of one tray", box.count(7), 4);
        air.due("the air beside one tray", box.count(8), 3 * 2 * 4 - 4);
        box.letDown(1, 0, 1, false);
        height.due("the height with a lower one", box.count(7), 4);
        air.due("the air beside a lid", box.count(8), 3 * 2 * 4 - 4 - 4);
        box.takeOut(1);
        box.letDown(1, 0, 0, false);
        height.due("the height with one upon it", box.count(7), 6);
        air.due("the air below it counts, too", box.count(8), 3 * 2 * 6 - 4 - 4);
        box.empty();
        empty.due("the height when all are out", box.count(7), 0);
        box.letDown(3, 0, 0, false);
        air.due("no air beside one that fills the box", box.count(8), 0);
    }

    private static void letDown() {
        Sentence lets = Sentence.of("Promise 11", "Lets a tray down.", "tray: the tray");
        Sentence floor = Sentence.of("Promise 11", "Returns its floor;");
        TrayBox box = Boxes.loose(6, 6, 30, "3x3x9;3x3x9l;1x2x1;");
        floor.due("on the ground", box.letDown(0, 0, 0, false), 0);
        floor.due("on a tray", box.letDown(1, 0, 0, false), 9);
        Sentence change = Sentence.of("Promise 11", "This is a change.");
        change.isChange(box, "letDown(2, 0, 0, true)", b -> b.letDown(2, 0, 0, true));
        floor.due("on a lid", box.letDown(2, 0, 0, false), 19);
        lets.due("tray(0, 5)", box.tray(0, 5), 1);
        lets.due("tray(1, 5)", box.tray(1, 5), 1);
        lets.due("tray(2, 5)", box.tray(2, 5), 1);
        lets.due("count(5)", box.count(5), 3);
    }

    private static void letDownArguments() {
        TrayBox box = Boxes.loose(6, 5, 12, "1x3x2;2x2x1;");
        box.letDown(0, 2, 1, true);
        Sentence x = Sentence.of("Promise 11", "x: the smallest x of its cells");
        Sentence y = Sentence.of("Promise 11", "y: the smallest y of its cells");
        Sentence turned = Sentence.of("Promise 11", "turned: whether it is turned");
        x.due("tray(0, 7)", box.tray(0, 7), 2);
        x.due("the cell before it", box.seen(1, 1, true), 0);
        x.due("its first cell", box.seen(2, 1, true), 2);
        x.due("its last cell", box.seen(4, 1, true), 2);
        x.due("the cell behind it", box.seen(5, 1, true), 0);
        y.due("tray(0, 8)", box.tray(0, 8), 1);
        y.due("the cell below it", box.seen(2, 0, true), 0);
        y.due("the cell beside it", box.seen(2, 2, true), 0);
        turned.due("tray(0, 6)", box.tray(0, 6), 1);
        box.takeOut(0);
        box.letDown(0, 2, 1, false);
        turned.due("tray(0, 6) when it is not", box.tray(0, 6), 0);
        turned.due("its last cell when it is not", box.seen(2, 3, true), 2);
        box.letDown(1, 0, 0, true);
        turned.due("a tray that is as long as wide", box.tray(1, 6), 1);
    }

    private static void letDownRefuses() {
        TrayBox box = Boxes.loaded("2x3x1;1x1x9;1x1x4;4x1x1;");
        box.letDown(1, 0, 0, false);
        Sentence none = Sentence.of("Promise 11", "BAD if there is no such tray,");
        for (int wrong : new int[] {-1, 4, 12, MIN, MAX}) {
            none.refuses(box, "letDown(" + wrong + ", 0, 0, false)", BAD, b -> b.letDown(wrong, 0, 0, false));
        }
        Sentence outside = Sentence.of("Promise 11", "or some of its cells would be none of the box;");
        for (int wrong : new int[] {-1, 6, MIN, MIN + 1, MAX, MAX - 1, MAX - 2}) {
            outside.refuses(box, "x of " + wrong, BAD, b -> b.letDown(0, wrong, 0, false));
            outside.refuses(box, "y of " + wrong, BAD, b -> b.letDown(0, 0, wrong, false));
            outside.refuses(box, "x of " + wrong + ", turned", BAD, b -> b.letDown(0, wrong, 0, true));
            outside.refuses(box, "y of " + wrong + ", turned", BAD, b -> b.letDown(0, 0, wrong, true));
        }
        outside.refuses(box, "one column too far", BAD, b -> b.letDown(0, 5, 3, false));
        outside.refuses(box, "one row too far", BAD, b -> b.letDown(0, 4, 4, false));
        Sentence state = Sentence.of("Promise 11", "STATE if it is in the box;");
        state.refuses(box, "at another place", STATE, b -> b.letDown(1, 3, 3, false));
        state.refuses(box, "where it is", STATE, b -> b.letDown(1, 0, 0, false));
        Sentence full = Sentence.of("Promise 11", "FULL if it does not fit or does not stand.");
        full.refuses(box, "a top of 13 in a depth of 12", FULL, b -> b.letDown(2, 0, 0, false));
        full.refuses(box, "by a quarter with a share of 50", FULL, b -> b.letDown(3, 0, 0, false));
        full.due("beside it", box.letDown(3, 1, 0, false), 0);
    }

    private static void takeOut() {
        TrayBox box = Boxes.loose(6, 6, 12, "2x2x2;3x1x1;1x1x1;");
        box.letDown(0, 0, 0, true);
        box.letDown(1, 0, 0, true);
        Sentence change = Sentence.of("Promise 12", "This is a change.");
        change.isChange(box, "takeOut(1)", b -> b.takeOut(1));
        Sentence floor = Sentence.of("Promise 12", "Returns the floor that it had;");
        floor.due("takeOut(1)", box.takeOut(1), 2);
        Sentence out = Sentence.of("Promise 12", "Takes a tray out;", "tray: the tray");
        out.due("tray(1, 5)", box.tray(1, 5), 0);
        out.due("the other one stays", box.tray(0, 5), 1);
        out.due("what is seen", box.seen(0, 0, false), 0);
        Sentence turned = Sentence.of("Promise 12", "it is not turned any more then.");
        turned.due("tray(1, 6)", box.tray(1, 6), 0);
        floor.due("takeOut(0)", box.takeOut(0), 0);
        turned.due("tray(0, 6)", box.tray(0, 6), 0);
        out.due("the box is empty", box.count(5), 0);
    }

    private static void takeOutRefuses() {
        TrayBox box = Boxes.loose(6, 6, 12, "2x2x2;3x1x1;1x1x1;");
        box.letDown(0, 0, 0, false);
        box.letDown(1, 1, 1, false);
        Sentence bad = Sentence.of("Promise 12", "BAD if there is no such tray;");
        for (int wrong : new int[] {-1, 3, 12, MIN, MAX}) {
            bad.refuses(box, "takeOut(" + wrong + ")", BAD, b -> b.takeOut(wrong));
        }
        bad.refuses(new TrayBox(), "takeOut(0) without trays", BAD, b -> b.takeOut(0));
        Sentence out = Sentence.of("Promise 12", "STATE if it is not in the box,");
        out.refuses(box, "takeOut(2)", STATE, b -> b.takeOut(2));
        Sentence free = Sentence.of("Promise 12", "or not free.");
        free.refuses(box, "takeOut(0) below one cell of another one", STATE, b -> b.takeOut(0));
        box.takeOut(1);
        out.refuses(box, "takeOut(1) once more", STATE, b -> b.takeOut(1));
        free.due("takeOut(0) when it is free", box.takeOut(0), 0);
    }
}
