/** Promise 23: what is recorded, how many states are remembered, and what undo restores. */
public final class HistoryTest {
    private static final int CHANGES = 12;

    private HistoryTest() {
    }

    public static void main(String[] args) {
        everyChangeIsUndone();
        oldestStatesAreDropped();
        statesAfterDroppedOnes();
        onlyChangesAreRecorded();
        refusedCallsAreNotRecorded();
        textStays();
        undoOfAllTrays();
        Check.end();
    }

    private static TrayBox begun() {
        TrayBox box = Boxes.withText("2x3x1@4;1x1x2l@9;3x1x1@2;4x1x1;");
        box.load();
        box.letDown(0, 0, 0, true);
        box.letDown(1, 1, 1, false);
        box.letDown(2, 5, 0, true);
        return box;
    }

    private static int change(TrayBox box, int number) {
        switch (number) {
            case 0: return box.setBox(7, 8, 9);
            case 1: return box.setShare(10);
            case 2: return box.load();
            case 3: return box.add(4, 4, 4, 4);
            case 4: return box.drop(3);
            case 5: return box.setTray(0, 0, 1);
            case 6: return box.letDown(3, 1, 3, false);
            case 7: return box.takeOut(2);
            case 8: return box.empty();
            case 9: return box.pack();
            case 10: return box.packBest();
            default: return box.play();
        }
    }

    private static void everyChangeIsUndone() {
        for (int number = 0; number < CHANGES; number++) {
            TrayBox box = begun();
            String before = Boxes.allAnswers(box);
            Check.holds("promise 23: change " + number + " succeeds", change(box, number) >= 0);
            Check.due("promise 23: change " + number + " is recorded", box.count(12), 5);
            Check.holds("promise 23: change " + number + " changes something",
                    !before.equals(Boxes.allAnswers(box)));
            Check.due("promise 23: undo() of change " + number, box.undo(), 4);
            Check.holds("promise 23: change " + number + " is undone", before.equals(Boxes.allAnswers(box)));
            Check.due("promise 23: count(12) after undo", box.count(12), 4);
        }
        TrayBox lid = begun();
        lid.setTray(3, 1, 1);
        lid.undo();
        Check.due("promise 23: a lid is undone", lid.tray(3, 4), 0);
        lid.setTray(3, 1, 1);
        lid.setTray(3, 1, 0);
        lid.undo();
        Check.due("promise 23: no lid is undone", lid.tray(3, 4), 1);
    }

    private static void oldestStatesAreDropped() {
        TrayBox box = new TrayBox();
        for (int share = 1; share <= 11; share++) {
            box.setShare(share);
            Check.due("promise 23: count(12)", box.count(12), Math.min(share, 8));
        }
        for (int left = 7; left >= 0; left--) {
            Check.due("promise 23: undo()", box.undo(), left);
            Check.due("promise 23: the share", box.count(3), left + 3);
        }
        Check.due("promise 23: no state is left", box.undo(), TrayBox.STATE);
        Check.due("promise 23: the share stays", box.count(3), 3);
    }

    private static void statesAfterDroppedOnes() {
        TrayBox box = new TrayBox();
        for (int share = 1; share <= 13; share++) {
            box.setShare(share);
        }
        box.undo();
        box.undo();
        box.undo();
        for (int share = 20; share < 24; share++) {
            box.setShare(share);
        }
        Check.due("promise 23: states", box.count(12), 8);
        int[] want = {22, 21, 20, 10, 9, 8, 7, 6};
        for (int share : want) {
            box.undo();
            Check.due("promise 23: the share before", box.count(3), share);
        }
        Check.due("promise 23: nothing before that", box.undo(), TrayBox.STATE);
    }

    private static void onlyChangesAreRecorded() {
        TrayBox box = begun();
        box.type(49);
        box.clearText();
        box.faultKind();
        box.tray(0, 14);
        box.seen(0, 0, true);
        box.place(3, 0);
        box.places(3);
        box.ifPacked(true, 0);
        box.ifPacked(false, 10);
        box.liftsTo(0);
        box.count(8);
        box.digest();
        Check.due("promise 23: states", box.count(12), 4);
    }

    private static void refusedCallsAreNotRecorded() {
        TrayBox box = begun();
        box.type('?');
        int[] answers = {box.setBox(1, 1, 1), box.setShare(101), box.load(), box.add(0, 0, 0, 0), box.drop(0),
            box.setTray(0, 1, 1), box.letDown(0, 0, 0, false), box.letDown(3, 0, 9, false), box.takeOut(3),
            box.takeOut(0)};
        for (int i = 0; i < answers.length; i++) {
            Check.holds("promise 23: call " + i + " is refused", answers[i] < 0);
        }
        Check.due("promise 23: states", box.count(12), 4);
        box.add(1, 1, 1, 1);
        box.add(1, 1, 1, 1);
        Check.due("promise 23: six trays", box.packBest(), TrayBox.STATE);
        Check.due("promise 23: only the two trays are recorded", box.count(12), 6);
    }

    private static void textStays() {
        TrayBox box = new TrayBox();
        box.setShare(1);
        Boxes.typeAll(box, "1x1x1;");
        box.load();
        box.undo();
        Check.due("promise 23: the text stays", box.count(11), 6);
        Check.due("promise 23: the trays of the load are gone", box.count(4), 0);
        box.undo();
        Check.due("promise 23: the text can be loaded still", box.load(), 1);
    }

    private static void undoOfAllTrays() {
        TrayBox box = Boxes.loose(10, 10, 30, "1x1x1;1x2x1;1x3x1;1x4x1;1x5x1;1x6x1;1x7x1;1x8x1;1x9x1;2x1x1;2x2x1;"
                + "2x3x1;");
        box.pack();
        box.clearText();
        long packed = box.digest();
        box.play();
        box.load();
        Check.due("promise 23: no trays", box.count(4), 0);
        box.undo();
        box.undo();
        Check.due("promise 23: twelve trays are back in the box", box.digest(), packed);
    }
}
