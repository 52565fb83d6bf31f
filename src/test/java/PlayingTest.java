/** Promises 21 and 22: playing the box through, and the lifts until a tray has been got. */
public final class PlayingTest {
    private PlayingTest() {
    }

    public static void main(String[] args) {
        playsByTurns();
        sameTurnByNumbers();
        linksFallAway();
        playEndsWithAnEmptyBox();
        traysThatAreOutDontCount();
        liftsToRefuses();
        Check.end();
    }

    private static void liftsTo(TrayBox box, int... want) {
        for (int tray = 0; tray < want.length; tray++) {
            Check.due("promise 22: liftsTo(" + tray + ")", box.liftsTo(tray), want[tray]);
        }
    }

    private static TrayBox tower(String text, int... order) {
        TrayBox box = Boxes.loose(4, 4, 30, text);
        for (int tray : order) {
            box.letDown(tray, 0, 0, false);
        }
        return box;
    }

    private static void playsByTurns() {
        TrayBox box = tower("2x2x1@9;2x2x1@0;2x2x1@5;", 0, 1, 2);
        liftsTo(box, 1, 1, 1);
        Check.due("promise 21: play()", box.play(), 1);
        TrayBox worst = tower("2x2x1@0;2x2x1@1;2x2x1@2;2x2x1@9;", 0, 1, 2, 3);
        liftsTo(worst, 3, 5, 6, 6);
        Check.due("promise 22: nothing changes", worst.count(5), 4);
        Check.due("promise 22: no change", worst.count(12), 7);
        Check.due("promise 21: play() of the worst tower", worst.play(), 6);
        TrayBox best = tower("2x2x1@0;2x2x1@1;2x2x1@2;2x2x1@9;", 3, 2, 1, 0);
        liftsTo(best, 0, 0, 0, 0);
        Check.due("promise 21: play() of the best tower", best.play(), 0);
    }

    private static void sameTurnByNumbers() {
        liftsTo(tower("1x1x1@4;1x1x1@4;1x1x1@4;", 0, 1, 2), 2, 3, 3);
        liftsTo(tower("1x1x1@4;1x1x1@4;1x1x1@4;", 2, 1, 0), 0, 0, 0);
        liftsTo(tower("1x1x1@4;1x1x1@4;1x1x1@4;", 1, 2, 0), 0, 1, 1);
    }

    /** A tray that was above another one only by way of a third is not above it any more when the third is got. */
    private static void linksFallAway() {
        TrayBox box = Boxes.loose(6, 2, 20, "2x1x1@5;2x1x1@1;2x1x1@5;2x1x2@9;");
        box.letDown(0, 0, 0, false);
        box.letDown(1, 1, 0, false);
        box.letDown(2, 2, 0, false);
        box.letDown(3, 3, 0, false);
        Check.due("promise 14: the lift of the lowest one before the play", box.tray(0, 11), 3);
        liftsTo(box, 2, 2, 3, 3);
        Check.due("promise 21: play()", box.play(), 3);
    }

    private static void playEndsWithAnEmptyBox() {
        TrayBox box = Boxes.loose(6, 6, 12, "3x1x1@9;1x3x2@9;2x2x2@0;1x1x1@4;");
        box.letDown(0, 0, 0, true);
        box.letDown(1, 0, 0, true);
        box.letDown(2, 1, 0, true);
        Check.due("promise 21: play()", box.play(), 1);
        Check.due("promise 21: the box is empty", box.count(5), 0);
        for (int tray = 0; tray < 4; tray++) {
            Check.due("promise 21: not turned", box.tray(tray, 6), 0);
        }
        Check.due("promise 21: the trays stay", box.count(4), 4);
        Check.due("promise 21: a change", box.count(12), 7);
        Check.due("promise 21: play() of an empty box", box.play(), 0);
        Check.due("promise 21: also a change", box.count(12), 8);
        Check.due("promise 21: without trays", new TrayBox().play(), 0);
    }

    private static void traysThatAreOutDontCount() {
        TrayBox box = tower("2x2x1@0;2x2x1@1;2x2x1@2;", 0, 2);
        Check.due("promise 22: liftsTo(0)", box.liftsTo(0), 1);
        Check.due("promise 22: liftsTo(2)", box.liftsTo(2), 1);
        Check.due("promise 22: liftsTo(1)", box.liftsTo(1), TrayBox.STATE);
        Check.due("promise 21: play()", box.play(), 1);
    }

    private static void liftsToRefuses() {
        TrayBox box = Boxes.loaded("1x1x1;");
        Check.due("promise 22: liftsTo(-1)", box.liftsTo(-1), TrayBox.BAD);
        Check.due("promise 22: liftsTo(-9)", box.liftsTo(-9), TrayBox.BAD);
        Check.due("promise 22: liftsTo(1)", box.liftsTo(1), TrayBox.BAD);
        Check.due("promise 22: liftsTo(MIN)", box.liftsTo(Integer.MIN_VALUE), TrayBox.BAD);
        Check.due("promise 22: out of the box", box.liftsTo(0), TrayBox.STATE);
    }
}
