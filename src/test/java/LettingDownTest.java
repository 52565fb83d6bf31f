/** Promises 11, 12, 14 and 15: letting down, taking out, and what is known of trays and cells. */
public final class LettingDownTest {
    private static final int MIN = Integer.MIN_VALUE;
    private static final int MAX = Integer.MAX_VALUE;

    private LettingDownTest() {
    }

    public static void main(String[] args) {
        floors();
        shareDecides();
        depthDecides();
        cellsOfTheBox();
        letDownRefuses();
        turnedTrays();
        takeOut();
        properties();
        liesOnAcrossOthers();
        propertiesRefuse();
        seen();
        Check.end();
    }

    private static void floors() {
        TrayBox box = Boxes.loose(6, 6, 20, "2x2x3;2x2x1;4x1x2l;1x1x1;");
        Check.due("promise 11: on the ground", box.letDown(0, 0, 0, false), 0);
        Check.due("promise 11: beside it", box.letDown(1, 2, 0, false), 0);
        Check.due("promise 11: on the higher one of two", box.letDown(2, 0, 1, false), 3);
        Check.due("promise 11: on a lid", box.letDown(3, 3, 1, false), 6);
        Check.due("promise 14: the cells on which it rests", box.tray(2, 15), 2);
        Check.due("promise 11: changes", box.count(12), 7);
    }

    private static void shareDecides() {
        TrayBox box = Boxes.loaded("1x1x1;3x1x1;");
        box.letDown(0, 0, 0, false);
        box.setShare(34);
        Check.due("promise 11: a third is less than 34 of 100", box.letDown(1, 0, 0, false), TrayBox.FULL);
        Check.due("promise 11: not let down", box.tray(1, 5), 0);
        box.setShare(33);
        Check.due("promise 11: a third is more than 33 of 100", box.letDown(1, 0, 0, false), 1);
        TrayBox half = Boxes.loaded("1x1x1;2x1x1;");
        half.letDown(0, 0, 0, false);
        Check.due("promise 11: just the share", half.letDown(1, 0, 0, false), 1);
        TrayBox whole = Boxes.loaded("3x3x1;3x3x1;1x1x1;");
        whole.setShare(100);
        Check.due("promise 11: all cells rest on the ground", whole.letDown(0, 0, 0, false), 0);
        Check.due("promise 11: all but some cells", whole.letDown(1, 0, 1, false), TrayBox.FULL);
        Check.due("promise 11: all cells rest on a tray", whole.letDown(1, 0, 0, false), 1);
        Check.due("promise 11: on two trays", whole.letDown(2, 2, 2, false), 2);
    }

    private static void depthDecides() {
        TrayBox box = Boxes.loaded("1x1x4;1x1x4;1x1x4l;");
        box.letDown(0, 0, 0, false);
        box.letDown(1, 0, 0, false);
        Check.due("promise 11: the lid does not fit", box.letDown(2, 0, 0, false), TrayBox.FULL);
        box.setTray(2, 1, 0);
        Check.due("promise 11: it just fits", box.letDown(2, 0, 0, false), 8);
        Check.due("promise 14: its top", box.tray(2, 10), 12);
    }

    private static void cellsOfTheBox() {
        TrayBox box = Boxes.loose(5, 4, 9, "2x3x1;");
        Check.due("promise 11: the greatest x and y", box.letDown(0, 3, 1, false), 0);
        box.takeOut(0);
        Check.due("promise 11: the greatest x and y of the turned tray", box.letDown(0, 2, 2, true), 0);
        box.takeOut(0);
        int[][] outside = {{4, 0}, {0, 2}, {-1, 0}, {0, -1}, {MAX, 0}, {0, MAX}, {MIN, 0}, {0, MIN}, {5, 4}};
        for (int[] at : outside) {
            Check.due("promise 11: letDown(0, " + at[0] + ", " + at[1] + ", false)",
                    box.letDown(0, at[0], at[1], false), TrayBox.BAD);
        }
        Check.due("promise 11: only the turned tray is outside", box.letDown(0, 3, 0, true), TrayBox.BAD);
        Check.due("promise 11: only the tray that isn't turned is outside", box.letDown(0, 0, 2, false), TrayBox.BAD);
    }

    private static void letDownRefuses() {
        TrayBox box = Boxes.loaded("1x1x1;1x1x9;");
        box.setBox(6, 6, 8);
        Check.due("promise 11: letDown(-1, 0, 0, false)", box.letDown(-1, 0, 0, false), TrayBox.BAD);
        Check.due("promise 11: letDown(2, 0, 0, false)", box.letDown(2, 0, 0, false), TrayBox.BAD);
        Check.due("promise 11: too high", box.letDown(1, 0, 0, false), TrayBox.FULL);
        Check.due("promise 11: too high and outside", box.letDown(1, 6, 0, false), TrayBox.BAD);
        box.letDown(0, 0, 0, false);
        Check.due("promise 11: in the box", box.letDown(0, 1, 1, false), TrayBox.STATE);
        Check.due("promise 11: in the box, and outside", box.letDown(0, 0, 6, false), TrayBox.BAD);
        TrayBox full = Boxes.loaded("1x1x9;");
        full.letDown(0, 0, 0, false);
        Check.due("promise 11: in the box, and too high upon itself", full.letDown(0, 0, 0, false), TrayBox.STATE);
    }

    private static void turnedTrays() {
        TrayBox box = Boxes.loose(6, 6, 12, "3x1x2;2x2x1;1x1x1;1x1x1;");
        box.letDown(0, 1, 2, true);
        Check.due("promise 14: turned", box.tray(0, 6), 1);
        Check.due("promise 14: width as it was added", box.tray(0, 0), 3);
        Check.due("promise 14: length as it was added", box.tray(0, 1), 1);
        for (int y = 0; y < 6; y++) {
            Check.due("promise 15: a column of cells", box.seen(1, y, true), y >= 2 && y <= 4 ? 2 : 0);
        }
        Check.due("promise 15: beside it", box.seen(2, 2, true), 0);
        Check.due("promise 11: square trays can be turned", box.letDown(1, 4, 4, true), 0);
        Check.due("promise 14: and are turned then", box.tray(1, 6), 1);
        Check.due("promise 11: on the last cell of the turned tray", box.letDown(2, 1, 4, false), 2);
        Check.due("promise 11: behind it", box.letDown(3, 1, 5, false), 0);
    }

    private static void takeOut() {
        TrayBox box = Boxes.loose(6, 6, 12, "2x2x2;3x1x1;1x1x1;");
        box.letDown(0, 0, 0, false);
        box.letDown(1, 0, 0, true);
        Check.due("promise 12: takeOut(-1)", box.takeOut(-1), TrayBox.BAD);
        Check.due("promise 12: takeOut(3)", box.takeOut(3), TrayBox.BAD);
        Check.due("promise 12: takeOut(MIN)", box.takeOut(MIN), TrayBox.BAD);
        Check.due("promise 12: not in the box", box.takeOut(2), TrayBox.STATE);
        Check.due("promise 12: not free", box.takeOut(0), TrayBox.STATE);
        Check.due("promise 12: no change", box.count(12), 5);
        Check.due("promise 12: takeOut(1)", box.takeOut(1), 2);
        Check.due("promise 12: out", box.tray(1, 5), 0);
        Check.due("promise 12: not turned", box.tray(1, 6), 0);
        Check.due("promise 12: a change", box.count(12), 6);
        Check.due("promise 12: now free", box.takeOut(0), 0);
        Check.due("promise 12: the box is empty", box.count(5), 0);
    }

    private static void properties() {
        TrayBox box = Boxes.loose(6, 6, 20, "4x4x2@5;2x2x1@6;2x2x1@5;2x2x1l@2;6x6x1@9;");
        box.letDown(0, 1, 1, false);
        box.letDown(1, 0, 0, false);
        box.letDown(2, 3, 3, false);
        box.letDown(3, 0, 1, false);
        int[][] want = {
            {4, 4, 2, 5, 0, 1, 0, 1, 1, 0, 2, 3, 1, 0, 14, 16},
            {2, 2, 1, 6, 0, 1, 0, 0, 0, 2, 3, 1, 0, 0, 8, 1},
            {2, 2, 1, 5, 0, 1, 0, 3, 3, 2, 3, 0, 0, 1, 0, 4},
            {2, 2, 1, 2, 1, 1, 0, 0, 1, 3, 5, 0, 0, 1, 0, 2},
            {6, 6, 1, 9, 0, 0, 0, -9, -9, -9, -9, -9, -9, -9, -9, -9}};
        for (int tray = 0; tray < 5; tray++) {
            for (int what = 0; what <= 15; what++) {
                Check.due("promise 14: tray(" + tray + ", " + what + ")", box.tray(tray, what), want[tray][what]);
            }
        }
    }

    /** A tray can be above another one, and late, without sharing a cell with it. */
    private static void liesOnAcrossOthers() {
        TrayBox box = Boxes.loose(6, 2, 20, "2x1x1@1;2x1x1@0;2x1x1@3;2x1x1@1;1x1x1@9;");
        for (int tray = 0; tray < 4; tray++) {
            box.letDown(tray, tray, 0, false);
        }
        box.letDown(4, 5, 0, false);
        Check.due("promise 14: the trays above", box.tray(0, 14), 2 + 4 + 8);
        Check.due("promise 14: the lift", box.tray(0, 11), 3);
        Check.due("promise 14: late is only a greater turn", box.tray(0, 12), 1);
        Check.due("promise 14: the fault of the second tray", box.tray(1, 12), 2);
        Check.due("promise 14: beside it nothing is above", box.tray(4, 14), 0);
        Check.due("promise 24: the faults", box.count(9), 3);
        Check.due("promise 24: the lifts", box.count(10), 6);
        TrayBox tower = Boxes.loose(2, 2, 30, Boxes.text(12));
        for (int tray = 11; tray >= 0; tray--) {
            tower.letDown(tray, 1, 1, false);
        }
        Check.due("promise 14: all trays above the lowest one", tower.tray(11, 14), 2047);
        Check.due("promise 14: none above the highest one", tower.tray(0, 14), 0);
        Check.due("promise 24: the lifts of the tower", tower.count(10), 66);
    }

    private static void propertiesRefuse() {
        TrayBox box = Boxes.loaded("1x1x1;");
        Check.due("promise 14: tray(-1, 0)", box.tray(-1, 0), TrayBox.BAD);
        Check.due("promise 14: tray(1, 0)", box.tray(1, 0), TrayBox.BAD);
        Check.due("promise 14: tray(0, -1)", box.tray(0, -1), TrayBox.BAD);
        Check.due("promise 14: tray(0, 16)", box.tray(0, 16), TrayBox.BAD);
        Check.due("promise 14: tray(MAX, MIN)", box.tray(MAX, MIN), TrayBox.BAD);
        Check.due("promise 14: tray(0, MAX)", box.tray(0, MAX), TrayBox.BAD);
        Check.due("promise 14: tray(0, 7)", box.tray(0, 7), TrayBox.NONE);
        box.letDown(0, 0, 0, false);
        Check.due("promise 14: tray(0, 16) in the box", box.tray(0, 16), TrayBox.BAD);
    }

    private static void seen() {
        TrayBox box = Boxes.loose(3, 5, 12, "2x2x2;1x1x3;3x3x1;");
        box.letDown(1, 2, 4, false);
        box.letDown(0, 0, 0, false);
        Check.due("promise 15: a number", box.seen(1, 1, false), 0);
        Check.due("promise 15: a top", box.seen(1, 1, true), 2);
        Check.due("promise 15: another number", box.seen(2, 4, false), 1);
        Check.due("promise 15: another top", box.seen(2, 4, true), 3);
        Check.due("promise 15: no number", box.seen(2, 2, false), TrayBox.NONE);
        Check.due("promise 15: no top", box.seen(2, 2, true), 0);
        box.letDown(2, 0, 1, false);
        Check.due("promise 15: the uppermost number", box.seen(1, 1, false), 2);
        Check.due("promise 15: the uppermost top", box.seen(1, 1, true), 3);
        Check.due("promise 15: beside it", box.seen(1, 0, false), 0);
        int[][] outside = {{-1, 0}, {3, 0}, {0, -1}, {0, 5}, {MIN, 0}, {0, MAX}};
        for (int[] at : outside) {
            Check.due("promise 15: seen(" + at[0] + ", " + at[1] + ", true)", box.seen(at[0], at[1], true),
                    TrayBox.BAD);
            Check.due("promise 15: seen(" + at[0] + ", " + at[1] + ", false)", box.seen(at[0], at[1], false),
                    TrayBox.BAD);
        }
    }
}
