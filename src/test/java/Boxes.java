/** Boxes in states that the tests begin with. */
final class Boxes {
    private Boxes() {
    }

    static TrayBox withText(String text) {
        TrayBox box = new TrayBox();
        typeAll(box, text);
        return box;
    }

    static void typeAll(TrayBox box, String text) {
        for (int i = 0; i < text.length(); i++) {
            box.type(text.charAt(i));
        }
    }

    static TrayBox loaded(String text) {
        TrayBox box = withText(text);
        Check.holds("the text " + text + " can be loaded", box.load() >= 0);
        return box;
    }

    /** A box whose share is 0, so that every tray stands everywhere. */
    static TrayBox loose(int width, int length, int depth, String text) {
        TrayBox box = loaded(text);
        box.setBox(width, length, depth);
        box.setShare(0);
        return box;
    }

    /** All that can be asked without changing anything, for comparing states. */
    static String allAnswers(TrayBox box) {
        StringBuilder all = new StringBuilder();
        for (int what = 0; what <= 11; what++) {
            all.append(box.count(what)).append(' ');
        }
        for (int tray = 0; tray < box.count(4); tray++) {
            for (int what = 0; what <= 15; what++) {
                all.append(box.tray(tray, what)).append(' ');
            }
        }
        return all.toString();
    }
}
