import java.io.IOException;
import java.io.UncheckedIOException;
import java.nio.file.Files;
import java.nio.file.Path;

/** "What it is", and "The public face". */
final class WholeSentences {
    private static final int STATE = TrayBox.STATE, FULL = TrayBox.FULL;
    private static final int MOST_CALLS = 512;
    private static final String[] FACE = {
        "public TrayBox();",
        "public int setBox(int width, int length, int depth);",
        "public int setShare(int share);",
        "public int type(int code);",
        "public int clearText();",
        "public int load();",
        "public int faultKind();",
        "public int add(int width, int length, int height, int turn);",
        "public int drop(int tray);",
        "public int setTray(int tray, int what, int value);",
        "public int letDown(int tray, int x, int y, boolean turned);",
        "public int takeOut(int tray);",
        "public int empty();",
        "public int tray(int tray, int what);",
        "public int seen(int x, int y, boolean top);",
        "public int place(int tray, int what);",
        "public int places(int tray);",
        "public int pack();",
        "public int packBest();",
        "public int ifPacked(boolean best, int what);",
        "public int play();",
        "public int liftsTo(int tray);",
        "public int undo();",
        "public int count(int what);",
        "public long digest();",
    };

    private WholeSentences() {
    }

    static void run() {
        blocksOfCells();
        wantedAtATurn();
        whatTheClassDoes();
        textsAndUndo();
        allCallsOfAnObject();
        face();
    }

    private static void blocksOfCells() {
        Sentence s = Sentence.of("What it is", "Trays in the box of a game. Trays are blocks of cells that are let down"
                + " into the box one on the other; they can be turned, and can have lids.");
        TrayBox box = Boxes.loaded("3x1x2l;1x2x1;");
        s.due("letDown(0, 1, 1, true)", box.letDown(0, 1, 1, true), 0);
        s.due("letDown(1, 1, 3, false)", box.letDown(1, 1, 3, false), 3);
        for (int y = 0; y < 6; y++) {
            s.due("seen(1, " + y + ", true)", box.seen(1, y, true), new int[] {0, 3, 3, 4, 4, 0}[y]);
            s.due("seen(2, " + y + ", true)", box.seen(2, y, true), 0);
        }
    }

    private static void wantedAtATurn() {
        Sentence s = Sentence.of("What it is", "Each tray is wanted at some turn of the game, and should be got without"
                + " lifting trays that are wanted later.");
        TrayBox box = Boxes.loaded("1x1x1@3;1x1x1@7;1x1x1@3;1x1x1@2;");
        for (int tray = 0; tray < 4; tray++) {
            s.due("letDown(" + tray + ", 0, 0, false)", box.letDown(tray, 0, 0, false), tray);
        }
        for (int tray = 0; tray < 4; tray++) {
            s.due("tray(" + tray + ", 3)", box.tray(tray, 3), new int[] {3, 7, 3, 2}[tray]);
            s.due("tray(" + tray + ", 12)", box.tray(tray, 12), new int[] {1, 0, 0, 0}[tray]);
        }
        s.due("pack()", box.pack(), 0);
        s.due("count(9), the faults, after pack()", box.count(9), 0);
    }

    private static void whatTheClassDoes() {
        Sentence s = Sentence.of("What it is", "The class lets trays down where they stand firmly, takes them out,"
                + " tells what has to be lifted for each tray, how much air there is, finds places, packs a box by a"
                + " rule or in the best order, and plays the game through.");
        TrayBox box = Boxes.loaded("2x2x1@1;3x3x1@2;1x1x4@4;");
        s.due("letDown(0, 0, 0, false)", box.letDown(0, 0, 0, false), 0);
        s.due("letDown(1) where it doesn't stand", box.letDown(1, 0, 0, false), FULL);
        s.due("letDown(2) where it stands", box.letDown(2, 1, 1, false), 1);
        s.due("takeOut(0)", box.takeOut(0), STATE);
        s.due("tray(0, 14)", box.tray(0, 14), 4);
        s.due("count(8)", box.count(8), 6 * 6 * 5 - 4 - 4);
        s.due("place(1, 0)", box.place(1, 0), 2);
        s.due("places(1), as many as beside tray 0", box.places(1), 16 - 4);
        s.due("play()", box.play(), 1);
        s.due("pack()", box.pack(), 0);
        s.due("tray(2, 7) after pack()", box.tray(2, 7), 0);
        s.due("tray(1, 7) after pack()", box.tray(1, 7), 1);
        s.due("packBest()", box.packBest(), 0);
        s.due("tray(0, 7) after packBest()", box.tray(0, 7), 0);
        s.due("takeOut(0) after packBest()", box.takeOut(0), 0);
    }

    private static void textsAndUndo() {
        Sentence s = Sentence.of("What it is", "Boxes can be read from texts, and changes can be undone.");
        TrayBox box = Boxes.withText("4x3x2l@1;");
        s.due("load()", box.load(), 1);
        s.due("count(4) after load()", box.count(4), 1);
        s.due("undo()", box.undo(), 0);
        s.due("count(4) after undo()", box.count(4), 0);
    }

    /** Nothing may wear out within 512 calls; ModelTest makes as many in a mixed order. */
    private static void allCallsOfAnObject() {
        Sentence s = Sentence.of("What it is",
                "An object is used for at most 512 calls after it has been made; what later calls answer is free.");
        TrayBox box = new TrayBox();
        for (int call = 1; call <= MOST_CALLS - 4; call += 4) {
            int turn = call / 4 % 10;
            s.due("add() as call " + call, box.add(2, 2, 1, turn), 0);
            s.due("letDown() as call " + (call + 1), box.letDown(0, call % 5, call % 4, false), 0);
            s.due("takeOut() as call " + (call + 2), box.takeOut(0), 0);
            s.due("drop() as call " + (call + 3), box.drop(0), 0);
        }
        s.due("count(12) as call 509", box.count(12), 8);
        s.due("undo() as call 510", box.undo(), 7);
        s.due("undo() as call 511", box.undo(), 6);
        s.due("tray(0, 5) as call 512", box.tray(0, 5), 1);
    }

    private static void face() {
        String source = source();
        Sentence constants = Sentence.of("The public face",
                "public static final int BAD = -1, STATE = -2, FULL = -3, NONE = -9;");
        constants.due("BAD", TrayBox.BAD, -1);
        constants.due("STATE", TrayBox.STATE, -2);
        constants.due("FULL", TrayBox.FULL, -3);
        constants.due("NONE", TrayBox.NONE, -9);
        Sentence theClass = Sentence.of("The public face", "public final class TrayBox {");
        theClass.holds("TrayBox.java has it", source.contains("public final class TrayBox {"));
        for (String member : FACE) {
            String begun = member.replace(";", " {");
            Sentence.of("The public face", member).holds("TrayBox.java has it", source.contains(begun));
        }
    }

    private static String source() {
        try {
            return Files.readString(Path.of("src/main/java/TrayBox.java"));
        } catch (IOException e) {
            throw new UncheckedIOException(e);
        }
    }
}
