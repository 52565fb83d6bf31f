/** Boxes in states that the tests begin with. */
final class Boxes {
    private Boxes() {
    }

    static TrayBox withText(String text) {
        TrayBox box = new TrayBox();
        typeAll(box, text);
        return box;
    }

    static void typeAll(TrayBox box, String text) {
        for (int i = 0; i < text.length(); i++) {
            box.type(text.charAt(i));
        }
    }

    static TrayBox loaded(String text) {
        TrayBox box = withText(text);
        Check.holds("the text " + text + " can be loaded", box.load() >= 0);
        return box;
    }

    /** A box whose share is 0, so that every tray stands everywhere. */
    static TrayBox loose(int width, int length, int depth, String text) {
        return sized(width, length, depth, 0, text);
    }

    static TrayBox sized(int width, int length, int depth, int share, String text) {
        TrayBox box = loaded(text);
        box.setBox(width, length, depth);
        box.setShare(share);
        return box;
    }

    /** The shortest text of so many trays. */
    static String text(int trays) {
        return "1x1x1;".repeat(trays);
    }

    /** A box with as many trays of one cell, all of them out of it. */
    static TrayBox withTrays(int trays) {
        TrayBox box = new TrayBox();
        for (int tray = 0; tray < trays; tray++) {
            box.add(1, 1, 1, 0);
        }
        return box;
    }

    /** All that can be asked without changing anything, for comparing states. */
    static String allAnswers(TrayBox box) {
        StringBuilder all = new StringBuilder();
        for (int what = 0; what <= 11; what++) {
            all.append(box.count(what)).append(' ');
        }
        for (int tray = 0; tray < box.count(4); tray++) {
            for (int what = 0; what <= 15; what++) {
                all.append(box.tray(tray, what)).append(' ');
            }
        }
        return all.toString();
    }

    /** What digest() has to answer, by the other answers of the same object. */
    static long hash(TrayBox box) {
        long h = 43160;
        for (int what = 0; what <= 12; what++) {
            h = 31 * h + box.count(what);
        }
        for (int tray = 0; tray < box.count(4); tray++) {
            for (int what = 0; what <= 15; what++) {
                h = 31 * h + box.tray(tray, what);
            }
            h = 31 * h + box.place(tray, 0);
            h = 31 * h + box.place(tray, 3);
        }
        for (int x = 0; x < box.count(0); x++) {
            for (int y = 0; y < box.count(1); y++) {
                h = 31 * h + box.seen(x, y, false);
                h = 31 * h + box.seen(x, y, true);
            }
        }
        for (int what = 0; what < 4; what++) {
            h = 31 * h + box.ifPacked(false, what);
        }
        for (int tray = 0; tray < box.count(4); tray++) {
            if (box.tray(tray, 5) == 1) {
                h = 31 * h + box.liftsTo(tray);
            }
        }
        return h;
    }
}
