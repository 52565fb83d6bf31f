/** Promises 16 and 17: the best place of a tray, and the number of its places. */
public final class PlacesTest {
    private PlacesTest() {
    }

    public static void main(String[] args) {
        smallestTopFirst();
        smallestYBeforeX();
        smallestXBeforeWay();
        onlyTheTurnedWay();
        squareTraysHaveOneWay();
        standingAndFitting();
        noPlace();
        refuses();
        Check.end();
    }

    private static void place(TrayBox box, int tray, int x, int y, int way, int top) {
        int[] want = {x, y, way, top};
        for (int what = 0; what < 4; what++) {
            Check.due("promise 16: place(" + tray + ", " + what + ")", box.place(tray, what), want[what]);
        }
    }

    private static void smallestTopFirst() {
        TrayBox box = Boxes.loose(4, 3, 12, "4x2x1;2x1x3l;");
        box.letDown(0, 0, 0, false);
        place(box, 1, 0, 2, 0, 4);
        Check.due("promise 17: places", box.places(1), 3 * 3 + 4 * 2);
        Check.due("promise 16: nothing changes", box.tray(1, 5), 0);
        Check.due("promise 16: no change", box.count(12), 4);
    }

    private static void smallestYBeforeX() {
        TrayBox box = Boxes.loose(3, 3, 12, "1x1x1;2x1x1;");
        box.letDown(0, 0, 0, false);
        place(box, 1, 1, 0, 0, 1);
        box.takeOut(0);
        box.letDown(0, 1, 0, false);
        place(box, 1, 0, 0, 1, 1);
    }

    private static void smallestXBeforeWay() {
        TrayBox box = Boxes.loose(4, 2, 12, "1x1x2;1x2x1;");
        place(box, 1, 0, 0, 0, 1);
        box.letDown(0, 0, 1, false);
        place(box, 1, 0, 0, 1, 1);
    }

    private static void onlyTheTurnedWay() {
        TrayBox box = Boxes.loose(2, 5, 12, "5x2x1;");
        place(box, 0, 0, 0, 1, 1);
        Check.due("promise 17: one place", box.places(0), 1);
    }

    private static void squareTraysHaveOneWay() {
        TrayBox box = Boxes.loose(4, 5, 12, "2x2x1;2x1x1;");
        Check.due("promise 17: a square tray", box.places(0), 3 * 4);
        Check.due("promise 17: another one", box.places(1), 3 * 5 + 4 * 4);
    }

    private static void standingAndFitting() {
        TrayBox box = Boxes.loaded("1x1x2;2x2x2;");
        box.setBox(3, 3, 4);
        box.letDown(0, 0, 0, false);
        box.setShare(25);
        Check.due("promise 17: one cell of four is enough", box.places(1), 4);
        box.setShare(26);
        Check.due("promise 17: one cell of four is too little", box.places(1), 3);
        place(box, 1, 1, 0, 0, 2);
        box.setShare(25);
        box.setTray(1, 1, 1);
        Check.due("promise 17: with a lid it is too high", box.places(1), 3);
    }

    private static void noPlace() {
        TrayBox box = Boxes.loaded("1x1x9;1x1x1;7x7x1;");
        box.setBox(2, 2, 9);
        Check.due("promise 17: places of a tray that just fits", box.places(0), 4);
        Check.due("promise 17: no places", box.places(2), 0);
        for (int what = 0; what < 4; what++) {
            Check.due("promise 16: no place, " + what, box.place(2, what), TrayBox.NONE);
        }
        box.setTray(0, 1, 1);
        Check.due("promise 17: no places with a lid", box.places(0), 0);
        Check.due("promise 16: no place with a lid", box.place(0, 3), TrayBox.NONE);
    }

    private static void refuses() {
        TrayBox box = Boxes.loaded("1x1x1;7x7x1;");
        box.letDown(0, 0, 0, false);
        int[][] bad = {{-1, 0}, {2, 0}, {1, -1}, {1, 4}, {0, 4}, {Integer.MIN_VALUE, 0}, {1, Integer.MAX_VALUE}};
        for (int[] b : bad) {
            Check.due("promise 16: place(" + b[0] + ", " + b[1] + ")", box.place(b[0], b[1]), TrayBox.BAD);
        }
        Check.due("promise 16: in the box", box.place(0, 0), TrayBox.STATE);
        Check.due("promise 17: places(-1)", box.places(-1), TrayBox.BAD);
        Check.due("promise 17: places(2)", box.places(2), TrayBox.BAD);
        Check.due("promise 17: places(MAX)", box.places(Integer.MAX_VALUE), TrayBox.BAD);
        Check.due("promise 17: in the box", box.places(0), TrayBox.STATE);
    }
}
