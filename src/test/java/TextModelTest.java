/** Every short text of the characters that count, and faults in long ones, against the model's reader. */
public final class TextModelTest {
    private static final String CHARACTERS = "0129xl@; ";
    private static final String[] STARTS = {"", "1x", "1x10x", "3x2x1", "3x2x4l", "3x2x9@", "1x1x1;", "10x10x9l@9",
        "00", "11", "10x00", "2x2x10", "3x2x05", "1x1x1;2x2x2;"};

    private TextModelTest() {
    }

    public static void main(String[] args) {
        for (String start : STARTS) {
            tryAll(start, 3);
        }
        StringBuilder eleven = new StringBuilder();
        for (int i = 0; i < 11; i++) {
            eleven.append("1x1x1;");
        }
        tryAll(eleven + "1x1x1", 3);
        tryAll(eleven + "1x1x1;", 2);
        tryEachCharacter();
        Check.end();
    }

    private static void tryAll(String text, int more) {
        tryText(text);
        if (more > 0) {
            for (int i = 0; i < CHARACTERS.length(); i++) {
                tryAll(text + CHARACTERS.charAt(i), more - 1);
            }
        }
    }

    private static void tryEachCharacter() {
        String right = "9x10x8l@7;2x3x4;5x06x1@0;";
        for (int at = 0; at < right.length(); at++) {
            for (char c = 32; c <= 126; c++) {
                tryText(right.substring(0, at) + c + right.substring(at + 1));
            }
        }
    }

    private static void tryText(String text) {
        ModelText read = new ModelText(text);
        TrayBox box = Boxes.withText(text);
        Check.due("load() of " + text, box.load(), read.kind == 0 ? read.trays.size() : -10 - read.index);
        Check.due("faultKind() of " + text, box.faultKind(), read.kind);
        Check.due("count(4) of " + text, box.count(4), read.kind == 0 ? read.trays.size() : 0);
        for (int tray = 0; tray < box.count(4) && read.kind == 0; tray++) {
            int[] want = read.trays.get(tray);
            int[] what = {0, 1, 2, 4, 3};
            for (int i = 0; i < 5; i++) {
                Check.due("tray(" + tray + ", " + what[i] + ") of " + text, box.tray(tray, what[i]), want[i]);
            }
        }
    }
}
