/** Promises 1 to 3, 8 to 10 and 13: a new object, the box, the share and the trays. */
public final class BoxAndTraysTest {
    private static final int MIN = Integer.MIN_VALUE;
    private static final int MAX = Integer.MAX_VALUE;

    private BoxAndTraysTest() {
    }

    public static void main(String[] args) {
        newObject();
        setBox();
        setBoxRefuses();
        setShare();
        add();
        addRefuses();
        drop();
        dropOfTwelve();
        dropRefuses();
        setTurn();
        setLid();
        setTrayRefuses();
        empty();
        Check.end();
    }

    private static void newObject() {
        TrayBox box = new TrayBox();
        int[] counts = {6, 6, 12, 50, 0, 0, 0, 0, 0, 0, 0, 0, 0};
        for (int what = 0; what < counts.length; what++) {
            Check.due("promise 1: count(" + what + ")", box.count(what), counts[what]);
        }
        Check.due("promise 1: undo()", box.undo(), TrayBox.STATE);
        Check.due("promise 1: faultKind()", box.faultKind(), 0);
        Check.due("promise 1: load() of the empty text", box.load(), 0);
        Check.due("promise 1: tray(0, 0)", box.tray(0, 0), TrayBox.BAD);
    }

    private static void setBox() {
        TrayBox box = Boxes.loaded("2x3x1;1x1x1;1x1x1;");
        box.letDown(0, 0, 0, true);
        box.letDown(2, 5, 5, false);
        Check.due("promise 2: setBox(10, 2, 30)", box.setBox(10, 2, 30), 2);
        Check.due("promise 2: W", box.count(0), 10);
        Check.due("promise 2: L", box.count(1), 2);
        Check.due("promise 2: D", box.count(2), 30);
        Check.due("promise 2: the trays are kept", box.count(4), 3);
        Check.due("promise 2: all are out", box.count(5), 0);
        Check.due("promise 2: none is turned", box.tray(0, 6), 0);
        Check.due("promise 2: setBox(2, 10, 1)", box.setBox(2, 10, 1), 0);
        Check.due("promise 2: D of 1", box.count(2), 1);
        Check.due("promise 2: each is a change", box.count(12), 5);
        Check.due("promise 2: the share is kept", box.count(3), 50);
    }

    private static void setBoxRefuses() {
        TrayBox box = Boxes.loaded("1x1x1;");
        box.letDown(0, 0, 0, false);
        int[][] wrong = {{1, 5, 5}, {11, 5, 5}, {5, 1, 5}, {5, 11, 5}, {5, 5, 0}, {5, 5, 31}, {MIN, 5, 5},
            {5, MAX, 5}, {5, 5, MIN}, {5, 5, MAX}};
        for (int[] w : wrong) {
            Check.due("promise 2: setBox(" + w[0] + ", " + w[1] + ", " + w[2] + ")", box.setBox(w[0], w[1], w[2]),
                    TrayBox.BAD);
        }
        Check.due("promise 2: a refused call changes nothing: W", box.count(0), 6);
        Check.due("promise 2: a refused call changes nothing: trays", box.count(5), 1);
        Check.due("promise 2: a refused call is no change", box.count(12), 2);
    }

    private static void setShare() {
        TrayBox box = Boxes.loaded("1x1x1;");
        box.letDown(0, 0, 0, false);
        Check.due("promise 3: setShare(0)", box.setShare(0), 50);
        Check.due("promise 3: setShare(100)", box.setShare(100), 0);
        Check.due("promise 3: setShare(101)", box.setShare(101), TrayBox.BAD);
        Check.due("promise 3: setShare(-1)", box.setShare(-1), TrayBox.BAD);
        Check.due("promise 3: setShare(MIN)", box.setShare(MIN), TrayBox.BAD);
        Check.due("promise 3: share", box.count(3), 100);
        Check.due("promise 3: trays in the box stay", box.count(5), 1);
        Check.due("promise 3: two changes", box.count(12), 4);
        Check.due("promise 3: the same share again", box.setShare(100), 100);
        Check.due("promise 3: that is a change, too", box.count(12), 5);
    }

    private static void add() {
        TrayBox box = new TrayBox();
        Check.due("promise 8: add(10, 1, 9, 0)", box.add(10, 1, 9, 0), 0);
        Check.due("promise 8: add(1, 10, 1, 9)", box.add(1, 10, 1, 9), 1);
        int[][] want = {{10, 1, 9, 0, 0, 0, 0}, {1, 10, 1, 9, 0, 0, 0}};
        for (int tray = 0; tray < 2; tray++) {
            for (int what = 0; what < 7; what++) {
                Check.due("promise 8: tray(" + tray + ", " + what + ")", box.tray(tray, what), want[tray][what]);
            }
        }
        Check.due("promise 8: two changes", box.count(12), 2);
        box.setTray(1, 1, 1);
        box.drop(1);
        box.add(2, 2, 2, 2);
        Check.due("promise 8: no lid in the place of a tray that had one", box.tray(1, 4), 0);
    }

    private static void addRefuses() {
        TrayBox box = new TrayBox();
        int[][] wrong = {{0, 5, 5, 5}, {11, 5, 5, 5}, {5, 0, 5, 5}, {5, 11, 5, 5}, {5, 5, 0, 5}, {5, 5, 10, 5},
            {5, 5, 5, -1}, {5, 5, 5, 10}, {MIN, 5, 5, 5}, {5, MAX, 5, 5}, {5, 5, MIN, 5}, {5, 5, 5, MAX}};
        for (int[] w : wrong) {
            Check.due("promise 8: add(" + w[0] + ", " + w[1] + ", " + w[2] + ", " + w[3] + ")",
                    box.add(w[0], w[1], w[2], w[3]), TrayBox.BAD);
        }
        for (int tray = 0; tray < 12; tray++) {
            Check.due("promise 8: number of the next tray", box.add(1, 1, 1, 0), tray);
        }
        Check.due("promise 8: a thirteenth tray", box.add(1, 1, 1, 0), TrayBox.FULL);
        Check.due("promise 8: a wrong thirteenth tray", box.add(1, 1, 10, 0), TrayBox.BAD);
        Check.due("promise 8: trays", box.count(4), 12);
    }

    private static void drop() {
        TrayBox box = Boxes.loaded("1x1x1@1;2x2x2@2;3x3x3l@3;4x4x1@4;");
        box.letDown(3, 1, 2, true);
        Check.due("promise 9: drop(1)", box.drop(1), 3);
        Check.due("promise 9: the tray behind it moves up", box.tray(1, 3), 3);
        Check.due("promise 9: with its lid", box.tray(1, 4), 1);
        Check.due("promise 9: the tray in the box moves up", box.tray(2, 5), 1);
        Check.due("promise 9: with its x", box.tray(2, 7), 1);
        Check.due("promise 9: with its y", box.tray(2, 8), 2);
        Check.due("promise 9: and turned", box.tray(2, 6), 1);
        Check.due("promise 9: what is seen", box.seen(1, 2, false), 2);
        Check.due("promise 9: the first tray stays", box.tray(0, 3), 1);
        Check.due("promise 9: no fourth tray any more", box.tray(3, 0), TrayBox.BAD);
        Check.due("promise 9: drop(0)", box.drop(0), 2);
        Check.due("promise 9: drop(0) again", box.drop(0), 1);
        Check.due("promise 9: changes", box.count(12), 5);
    }

    private static void dropOfTwelve() {
        TrayBox box = new TrayBox();
        for (int tray = 0; tray < 12; tray++) {
            box.add(1, 1, 1, tray % 10);
        }
        Check.due("promise 9: drop(5) of twelve trays", box.drop(5), 11);
        for (int tray = 0; tray < 11; tray++) {
            int turn = (tray < 5 ? tray : tray + 1) % 10;
            Check.due("promise 9: turn of the tray " + tray, box.tray(tray, 3), turn);
        }
        Check.due("promise 9: the last one of eleven", box.drop(10), 10);
        Check.due("promise 8: add() has room again", box.add(1, 1, 1, 0), 10);
    }

    private static void dropRefuses() {
        TrayBox box = Boxes.loaded("1x1x1;1x1x1;");
        box.letDown(0, 0, 0, false);
        Check.due("promise 9: drop(-1)", box.drop(-1), TrayBox.BAD);
        Check.due("promise 9: drop(2)", box.drop(2), TrayBox.BAD);
        Check.due("promise 9: drop(MAX)", box.drop(MAX), TrayBox.BAD);
        Check.due("promise 9: drop(0) in the box", box.drop(0), TrayBox.STATE);
        Check.due("promise 9: trays", box.count(4), 2);
        Check.due("promise 9: no change", box.count(12), 2);
    }

    private static void setTurn() {
        TrayBox box = Boxes.loaded("1x1x1@4;");
        Check.due("promise 10: setTray(0, 0, 9)", box.setTray(0, 0, 9), 4);
        Check.due("promise 10: the turn", box.tray(0, 3), 9);
        box.letDown(0, 0, 0, false);
        Check.due("promise 10: setTray(0, 0, 0) in the box", box.setTray(0, 0, 0), 9);
        Check.due("promise 10: the turn of 0", box.tray(0, 3), 0);
        Check.due("promise 10: the lid stays", box.tray(0, 4), 0);
        Check.due("promise 10: changes", box.count(12), 4);
    }

    private static void setLid() {
        TrayBox box = Boxes.loaded("1x1x1@4;");
        Check.due("promise 10: setTray(0, 1, 1)", box.setTray(0, 1, 1), 0);
        Check.due("promise 10: the lid", box.tray(0, 4), 1);
        Check.due("promise 10: height without the lid", box.tray(0, 2), 1);
        Check.due("promise 10: the turn stays", box.tray(0, 3), 4);
        box.letDown(0, 0, 0, false);
        Check.due("promise 10: with a lid it is 1 higher", box.tray(0, 10), 2);
        box.takeOut(0);
        Check.due("promise 10: setTray(0, 1, 0)", box.setTray(0, 1, 0), 1);
        Check.due("promise 10: no lid", box.tray(0, 4), 0);
    }

    private static void setTrayRefuses() {
        TrayBox box = Boxes.loaded("1x1x1@4;1x1x1l;");
        box.letDown(0, 0, 0, false);
        int[][] bad = {{-1, 0, 0}, {2, 0, 0}, {MIN, 0, 0}, {0, -1, 0}, {0, 2, 0}, {0, 0, -1}, {0, 0, 10}, {1, 1, -1},
            {1, 1, 2}, {0, 1, 2}, {0, MAX, 0}, {0, 0, MIN}};
        for (int[] b : bad) {
            Check.due("promise 10: setTray(" + b[0] + ", " + b[1] + ", " + b[2] + ")",
                    box.setTray(b[0], b[1], b[2]), TrayBox.BAD);
        }
        Check.due("promise 10: a lid in the box", box.setTray(0, 1, 1), TrayBox.STATE);
        Check.due("promise 10: no lid in the box", box.setTray(0, 1, 0), TrayBox.STATE);
        Check.due("promise 10: no change", box.count(12), 2);
    }

    private static void empty() {
        TrayBox box = Boxes.loaded("2x1x1;1x1x1;1x1x1;");
        Check.due("promise 13: empty() of an empty box", box.empty(), 0);
        Check.due("promise 13: that is a change", box.count(12), 2);
        box.letDown(0, 0, 0, true);
        box.letDown(1, 0, 0, false);
        Check.due("promise 13: empty()", box.empty(), 2);
        Check.due("promise 13: all are out", box.count(5), 0);
        Check.due("promise 13: none is turned", box.tray(0, 6), 0);
        Check.due("promise 13: the trays stay", box.count(4), 3);
        Check.due("promise 13: a change", box.count(12), 5);
    }
}
