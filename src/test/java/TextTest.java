/** Promises 4 to 7: the text buffer and its reading. */
public final class TextTest {
    private TextTest() {
    }

    public static void main(String[] args) {
        type();
        clearText();
        loadReads();
        loadReplaces();
        wrongCharacters();
        wrongEnds();
        numbersOutOfRange();
        tooManyTrays();
        faultedLoadChangesNothing();
        faultKindIsOfTheLatestLoad();
        Check.end();
    }

    private static void type() {
        TrayBox box = new TrayBox();
        int[] wrong = {31, 127, -1, 0, Integer.MIN_VALUE, Integer.MAX_VALUE, 65536 + 50};
        for (int code : wrong) {
            Check.due("promise 4: type(" + code + ")", box.type(code), TrayBox.BAD);
        }
        Check.due("promise 4: type(32)", box.type(32), 1);
        Check.due("promise 4: type(126)", box.type(126), 2);
        for (int i = 3; i <= 100; i++) {
            Check.due("promise 4: type(49)", box.type(49), i);
        }
        Check.due("promise 4: a character too many", box.type(49), TrayBox.FULL);
        Check.due("promise 4: a wrong one too many", box.type(127), TrayBox.BAD);
        Check.due("promise 4: characters", box.count(11), 100);
        Check.due("promise 4: no change", box.count(12), 0);
    }

    private static void clearText() {
        TrayBox box = new TrayBox();
        Check.due("promise 5: clearText() of an empty one", box.clearText(), 0);
        Boxes.typeAll(box, "1x1x1;");
        Check.due("promise 5: clearText()", box.clearText(), 6);
        Check.due("promise 5: characters", box.count(11), 0);
        Check.due("promise 5: load() after it", box.load(), 0);
        for (int i = 0; i < 100; i++) {
            box.type(50);
        }
        Check.due("promise 5: clearText() of a full one", box.clearText(), 100);
        Check.due("promise 5: type() after it", box.type(50), 1);
        Check.due("promise 5: no change", box.count(12), 1);
    }

    private static void loadReads() {
        TrayBox box = Boxes.withText("1x2x3;10x09x9l;07x1x01@8;4x5x6l@0;");
        Check.due("promise 6: load()", box.load(), 4);
        int[][] want = {{1, 2, 3, 0, 0}, {10, 9, 9, 0, 1}, {7, 1, 1, 8, 0}, {4, 5, 6, 0, 1}};
        for (int tray = 0; tray < 4; tray++) {
            for (int what = 0; what < 5; what++) {
                Check.due("promise 6: tray(" + tray + ", " + what + ")", box.tray(tray, what), want[tray][what]);
            }
        }
        Check.due("promise 6: the text stays", box.count(11), 34);
        Check.due("promise 6: a change", box.count(12), 1);
        Check.due("promise 6: load() once more", box.load(), 4);
        Check.due("promise 6: twelve trays", Boxes.withText("1x1x1;1x1x1;1x1x1;1x1x1;1x1x1;1x1x1;1x1x1;1x1x1;1x1x1;"
                + "1x1x1;1x1x1;1x1x1;").load(), 12);
    }

    private static void loadReplaces() {
        TrayBox box = Boxes.loaded("3x2x1l@5;1x1x1;");
        box.setBox(7, 8, 9);
        box.setShare(10);
        box.letDown(0, 0, 0, true);
        box.clearText();
        Boxes.typeAll(box, "2x3x4;");
        Check.due("promise 6: load() in place of others", box.load(), 1);
        int[] want = {2, 3, 4, 0, 0, 0, 0, TrayBox.NONE};
        for (int what = 0; what < want.length; what++) {
            Check.due("promise 6: tray(0, " + what + ")", box.tray(0, what), want[what]);
        }
        Check.due("promise 6: trays", box.count(4), 1);
        Check.due("promise 6: all are out", box.count(5), 0);
        Check.due("promise 6: the box stays", box.count(0) * 100 + box.count(1) * 10 + box.count(2), 789);
        Check.due("promise 6: the share stays", box.count(3), 10);
        box.clearText();
        Check.due("promise 6: load() of the empty text", box.load(), 0);
        Check.due("promise 6: no trays", box.count(4), 0);
    }

    private static void fault(String text, int kind, int index) {
        TrayBox box = Boxes.withText(text);
        Check.due("promise 6: load() of " + text, box.load(), -10 - index);
        Check.due("promise 7: faultKind() of " + text, box.faultKind(), kind);
    }

    private static void wrongCharacters() {
        fault(" 1x1x1;", 1, 0);
        fault(";", 1, 0);
        fault("x", 1, 0);
        fault("1X1x1;", 1, 1);
        fault("1 x1x1;", 1, 1);
        fault("1xx1;", 1, 2);
        fault("1x1;", 1, 3);
        fault("1x1x1,", 1, 5);
        fault("1x1x1x1;", 1, 5);
        fault("1x1x1L;", 1, 5);
        fault("1x1x1ll;", 1, 6);
        fault("1x1x1l@;", 1, 7);
        fault("1x1x1@l;", 1, 6);
        fault("1x1x1@12;", 1, 7);
        fault("1x1x1@1l;", 1, 7);
        fault("1x1x1@1@1;", 1, 7);
        fault("1x1x1;;", 1, 6);
        fault("123x1x1;", 1, 2);
        fault("991x1x1;", 1, 2);
        fault("1x001x1;", 1, 4);
        fault("1x1x123;", 1, 6);
        fault("1x1x1;1x1x1; ", 1, 12);
        fault("/x1x1;", 1, 0);
        fault(":x1x1;", 1, 0);
    }

    private static void wrongEnds() {
        fault("1", 1, 1);
        fault("10", 1, 2);
        fault("1x", 1, 2);
        fault("1x1", 1, 3);
        fault("1x1x", 1, 4);
        fault("1x1x1", 1, 5);
        fault("1x1x1l", 1, 6);
        fault("1x1x1@", 1, 6);
        fault("1x1x1@5", 1, 7);
        fault("1x1x1l@5", 1, 8);
        fault("1x1x1;2", 1, 7);
    }

    private static void numbersOutOfRange() {
        fault("0x1x1;", 2, 0);
        fault("00x1x1;", 2, 0);
        fault("11x1x1;", 2, 0);
        fault("1x0x1;", 2, 2);
        fault("1x11x1;", 2, 2);
        fault("1x1x0;", 2, 4);
        fault("1x1x10;", 2, 4);
        fault("1x1x10l;", 2, 4);
        fault("1x1x00@3;", 2, 4);
        fault("0 ", 2, 0);
        fault("99;", 2, 0);
        fault("1x0", 2, 2);
        fault("1x1x10", 2, 4);
        fault("11", 2, 0);
        fault("1x1x1;10x10x9;12x;", 2, 14);
    }

    private static void tooManyTrays() {
        String twelve = "1x1x1;1x1x1;1x1x1;1x1x1;1x1x1;1x1x1;1x1x1;1x1x1;1x1x1;1x1x1;1x1x1;1x1x1;";
        fault(twelve + "1", 3, 72);
        fault(twelve + "0x1x1;", 3, 72);
        fault(twelve + "999", 3, 72);
        fault(twelve + ";", 1, 72);
        fault(twelve + "x", 1, 72);
        fault(twelve + " 1x1x1;", 1, 72);
        fault(twelve.substring(0, 71), 1, 71);
    }

    private static void faultedLoadChangesNothing() {
        TrayBox box = Boxes.loaded("2x1x1l@3;");
        box.letDown(0, 1, 1, true);
        box.clearText();
        Boxes.typeAll(box, "3x3x3@1;4x4x4@2;5x5;");
        String before = Boxes.allAnswers(box);
        Check.due("promise 6: load() with a fault", box.load(), -10 - 19);
        Check.holds("promise 6: a load with a fault changes nothing", before.equals(Boxes.allAnswers(box)));
        Check.due("promise 6: it is no change", box.count(12), 2);
    }

    private static void faultKindIsOfTheLatestLoad() {
        TrayBox box = Boxes.withText("0x1x1;");
        Check.due("promise 7: no load yet", box.faultKind(), 0);
        box.load();
        Check.due("promise 7: faultKind()", box.faultKind(), 2);
        box.clearText();
        Check.due("promise 7: it stays when the text is cleared", box.faultKind(), 2);
        box.setShare(1);
        box.undo();
        Check.due("promise 7: it stays at an undo", box.faultKind(), 2);
        box.type('?');
        box.load();
        Check.due("promise 7: of the next load", box.faultKind(), 1);
        box.clearText();
        box.load();
        Check.due("promise 7: of a load without fault", box.faultKind(), 0);
    }
}
