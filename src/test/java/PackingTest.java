/** Promises 18 to 20: packing by the usual order and by the best one, and what it would come to. */
public final class PackingTest {
    private PackingTest() {
    }

    public static void main(String[] args) {
        usualOrder();
        packs();
        traysWithoutPlace();
        bestByTraysOut();
        bestByFaults();
        bestByHeight();
        bestByAir();
        bestByNumbers();
        limitOfBest();
        ifPackedChangesNothing();
        ifPackedRefuses();
        Check.end();
    }

    private static void usualOrder() {
        TrayBox box = Boxes.loaded("2x2x1@3;1x4x2@3;3x2x1@3;1x1x9@7;5x5x1@0;1x5x1@3;");
        int[] order = {3, 2, 5, 0, 1, 4};
        for (int k = 0; k < order.length; k++) {
            Check.due("promise 20: ifPacked(false, " + (10 + k) + ")", box.ifPacked(false, 10 + k), order[k]);
        }
        Check.due("promise 20: no seventh tray", box.ifPacked(false, 16), TrayBox.NONE);
        Check.due("promise 20: no such tray", box.ifPacked(false, Integer.MAX_VALUE), TrayBox.NONE);
    }

    private static void packs() {
        TrayBox box = Boxes.loaded("1x1x1@0;2x4x2@5;1x6x1@5;1x1x5@1;");
        box.setBox(4, 4, 20);
        box.letDown(3, 1, 2, true);
        Check.due("promise 20: would stay out", box.ifPacked(false, 0), 1);
        Check.due("promise 20: height", box.ifPacked(false, 2), 5);
        Check.due("promise 20: air", box.ifPacked(false, 3), 4 * 4 * 5 - 16 - 1 - 5);
        Check.due("promise 18: pack()", box.pack(), 1);
        int[][] want = {{1, 0, 3, 0, 0}, {1, 0, 0, 0, 0}, {0, 0, -9, -9, -9}, {1, 0, 2, 0, 0}};
        for (int tray = 0; tray < 4; tray++) {
            for (int what = 5; what <= 9; what++) {
                Check.due("promise 18: tray(" + tray + ", " + what + ")", box.tray(tray, what), want[tray][what - 5]);
            }
        }
        Check.due("promise 18: a change", box.count(12), 4);
        Check.due("promise 18: once more", box.pack(), 1);
        Check.due("promise 18: without trays", new TrayBox().pack(), 0);
    }

    private static void traysWithoutPlace() {
        TrayBox box = Boxes.loaded("2x1x3@9;2x1x3@8;");
        box.setBox(2, 2, 3);
        box.setShare(100);
        box.letDown(0, 0, 0, true);
        box.letDown(1, 1, 0, true);
        box.setTray(0, 0, 9);
        Check.due("promise 18: pack()", box.pack(), 0);
        Check.due("promise 18: turned as the way says", box.tray(0, 6), 0);
        box.empty();
        box.setTray(1, 1, 1);
        Check.due("promise 18: one is too high", box.pack(), 1);
        Check.due("promise 18: it is not turned", box.tray(1, 6), 0);
        TrayBox turned = Boxes.loaded("3x2x2@1;3x2x2@0;");
        turned.setBox(2, 3, 3);
        Check.due("promise 18: the second one stays out", turned.pack(), 1);
        Check.due("promise 18: the first one is turned", turned.tray(0, 6), 1);
        Check.due("promise 18: the second one is not turned", turned.tray(1, 6), 0);
        turned.empty();
        turned.letDown(1, 0, 0, true);
        turned.pack();
        Check.due("promise 18: nor if it was", turned.tray(1, 6), 0);
    }

    private static void best(String promise, TrayBox box, int[] order, int[] figures) {
        for (int k = 0; k < order.length; k++) {
            Check.due(promise + ": ifPacked(true, " + (10 + k) + ")", box.ifPacked(true, 10 + k), order[k]);
        }
        Check.due(promise + ": the end of the order", box.ifPacked(true, 10 + order.length), TrayBox.NONE);
        for (int what = 0; what < 4; what++) {
            Check.due(promise + ": ifPacked(true, " + what + ")", box.ifPacked(true, what), figures[what]);
        }
        int states = box.count(12);
        Check.due(promise + ": packBest()", box.packBest(), figures[0]);
        Check.due(promise + ": a change", box.count(12), states + 1);
        Check.due(promise + ": trays in the box", box.count(5), order.length - figures[0]);
        Check.due(promise + ": the faults", box.count(9), figures[1]);
        Check.due(promise + ": the height", box.count(7), figures[2]);
        Check.due(promise + ": the air", box.count(8), figures[3]);
    }

    private static void bestByTraysOut() {
        TrayBox box = Boxes.sized(2, 2, 9, 100, "1x2x1@2;2x2x3@0;2x2x2@1;");
        Check.due("promise 20: by the usual order two stay out", box.ifPacked(false, 0), 2);
        Check.due("promise 20: without faults", box.ifPacked(false, 1), 0);
        best("promise 19, trays that stay out", box, new int[] {2, 1, 0}, new int[] {0, 2, 6, 2});
    }

    private static void bestByFaults() {
        TrayBox box = Boxes.sized(3, 2, 7, 50, "3x1x1@0;2x2x2@2;1x2x3@0;");
        best("promise 19, faults", box, new int[] {1, 0, 2}, new int[] {0, 0, 5, 13});
        Check.due("promise 19: let down turned", box.tray(2, 6), 1);
        Check.due("promise 19: its x", box.tray(2, 7), 0);
        Check.due("promise 19: its y", box.tray(2, 8), 1);
        Check.due("promise 19: its floor", box.tray(2, 9), 2);
    }

    private static void bestByHeight() {
        TrayBox box = Boxes.sized(3, 3, 3, 0, "1x2x1@0;3x3x2@2;3x3x1@0;");
        best("promise 19, height", box, new int[] {0, 2, 1}, new int[] {1, 0, 2, 7});
    }

    private static void bestByAir() {
        TrayBox box = Boxes.sized(2, 3, 2, 0, "1x2x1@1;2x3x1@1;3x2x1@1;");
        best("promise 19, air", box, new int[] {1, 2, 0}, new int[] {1, 0, 2, 0});
    }

    private static void bestByNumbers() {
        TrayBox box = Boxes.sized(6, 6, 12, 50, "1x1x1;1x1x1;1x1x1;1x1x1;1x1x1;");
        best("promise 19, numbers", box, new int[] {0, 1, 2, 3, 4}, new int[] {0, 0, 1, 31});
        best("promise 19, no trays", new TrayBox(), new int[] {}, new int[] {0, 0, 0, 0});
        best("promise 19, one tray", Boxes.sized(2, 2, 1, 0, "2x1x1@4;"), new int[] {0}, new int[] {0, 0, 1, 2});
        TrayBox last = Boxes.sized(2, 2, 9, 0, "2x2x1@0;2x2x1@1;2x2x1@2;2x2x1@3;2x2x1@4;");
        best("promise 19, the last order", last, new int[] {4, 3, 2, 1, 0}, new int[] {0, 0, 5, 0});
    }

    private static void limitOfBest() {
        TrayBox box = Boxes.loaded("1x1x1;1x1x1;1x1x1;1x1x1;1x1x1;1x1x1;");
        Check.due("promise 19: six trays", box.packBest(), TrayBox.STATE);
        Check.due("promise 20: six trays", box.ifPacked(true, 0), TrayBox.STATE);
        Check.due("promise 20: six trays, their order", box.ifPacked(true, 10), TrayBox.STATE);
        Check.due("promise 20: six trays, and no seventh", box.ifPacked(true, 16), TrayBox.STATE);
        Check.due("promise 20: six trays, and wrong", box.ifPacked(true, 4), TrayBox.BAD);
        Check.due("promise 20: six trays in the usual order", box.ifPacked(false, 15), 5);
        Check.due("promise 19: no change", box.count(12), 1);
        Check.due("promise 19: all are out", box.count(5), 0);
        box.drop(0);
        Check.due("promise 19: five trays", box.packBest(), 0);
    }

    private static void ifPackedChangesNothing() {
        TrayBox box = Boxes.loose(6, 6, 12, "1x2x1@2;2x2x3@0;2x2x2l@1;");
        box.letDown(2, 3, 3, true);
        box.letDown(0, 4, 4, true);
        String before = Boxes.allAnswers(box);
        for (int what = 0; what < 14; what++) {
            box.ifPacked(true, what);
            box.ifPacked(false, what);
        }
        Check.holds("promise 20: nothing changes", before.equals(Boxes.allAnswers(box)));
        Check.due("promise 20: no change", box.count(12), 5);
    }

    private static void ifPackedRefuses() {
        TrayBox box = Boxes.loaded("1x1x1;");
        int[] wrong = {-1, 4, 5, 9, Integer.MIN_VALUE, Integer.MIN_VALUE + 9};
        for (int what : wrong) {
            Check.due("promise 20: ifPacked(false, " + what + ")", box.ifPacked(false, what), TrayBox.BAD);
            Check.due("promise 20: ifPacked(true, " + what + ")", box.ifPacked(true, what), TrayBox.BAD);
        }
        Check.due("promise 20: ifPacked(true, MAX)", box.ifPacked(true, Integer.MAX_VALUE), TrayBox.NONE);
    }
}
