import java.util.ArrayList;
import java.util.List;

/** Reads a text as trays for the model: a table of states, a character at a time, unlike the class under test. */
final class ModelText {
    private enum Expected { FIRST_DIGIT, MORE_OR_BEHIND, AFTER_LID, TURN, SEMICOLON }

    final List<int[]> trays = new ArrayList<>();
    int kind = 0;
    int index = 0;

    private Expected expected = Expected.FIRST_DIGIT;
    private int part = 0;
    private String digits = "";
    private int[] tray = new int[5];

    ModelText(String text) {
        int end = text.length();
        for (int i = 0; i < end && kind == 0; i++) {
            take(text.charAt(i), i);
        }
        boolean isBetweenTrays = expected == Expected.FIRST_DIGIT && part == 0;
        if (kind == 0 && !isBetweenTrays) {
            takeEnd(end);
        }
    }

    private void take(char c, int i) {
        boolean isDigit = c >= '0' && c <= '9';
        switch (expected) {
            case FIRST_DIGIT:
                takeFirstDigit(c, i, isDigit);
                break;
            case MORE_OR_BEHIND:
                takeBehindDigit(c, i, isDigit);
                break;
            case AFTER_LID:
                takeAfterLid(c, i);
                break;
            case TURN:
                if (isDigit) {
                    tray[4] = c - '0';
                    expected = Expected.SEMICOLON;
                } else {
                    fault(1, i);
                }
                break;
            default:
                takeSemicolon(c, i);
        }
    }

    private void takeFirstDigit(char c, int i, boolean isDigit) {
        if (!isDigit) {
            fault(1, i);
        } else if (part == 0 && trays.size() == 12) {
            fault(3, i);
        } else {
            digits = "" + c;
            expected = Expected.MORE_OR_BEHIND;
        }
    }

    private void takeBehindDigit(char c, int i, boolean isDigit) {
        if (isDigit) {
            digits += c;
            if (digits.length() > 2) {
                fault(1, i);
            }
            return;
        }
        if (!finishNumber(i)) {
            return;
        }
        if (part < 2) {
            part++;
            expected = Expected.FIRST_DIGIT;
            if (c != 'x') {
                fault(1, i);
            }
        } else if (c == 'l') {
            tray[3] = 1;
            expected = Expected.AFTER_LID;
        } else {
            takeAfterLid(c, i);
        }
    }

    private boolean finishNumber(int i) {
        int value = Integer.parseInt(digits);
        if (value < 1 || value > (part == 2 ? 9 : 10)) {
            fault(2, i - digits.length());
            return false;
        }
        tray[part] = value;
        return true;
    }

    private void takeAfterLid(char c, int i) {
        if (c == '@') {
            expected = Expected.TURN;
        } else {
            takeSemicolon(c, i);
        }
    }

    private void takeSemicolon(char c, int i) {
        if (c != ';') {
            fault(1, i);
            return;
        }
        trays.add(tray);
        tray = new int[5];
        part = 0;
        expected = Expected.FIRST_DIGIT;
    }

    private void takeEnd(int end) {
        if (expected != Expected.MORE_OR_BEHIND || finishNumber(end)) {
            fault(1, end);
        }
    }

    private void fault(int foundKind, int foundIndex) {
        kind = foundKind;
        index = foundIndex;
    }
}
