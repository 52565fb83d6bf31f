/** Promises 24 and 25: the counts and the hash. */
public final class CountsTest {
    private CountsTest() {
    }

    public static void main(String[] args) {
        counts();
        countRefuses();
        digestOfNewObject();
        digestByItsWords();
        digestChangesNothing();
        Check.end();
    }

    private static TrayBox filled() {
        TrayBox box = Boxes.loose(7, 5, 9, "3x2x2@1;2x2x1l@4;1x1x1@9;5x1x3@2;");
        box.letDown(0, 1, 1, true);
        box.letDown(1, 2, 2, false);
        box.letDown(2, 3, 3, false);
        return box;
    }

    private static void counts() {
        TrayBox box = filled();
        int air = 7 * 5 * 5 - 12 - 8 - 1;
        int[] want = {7, 5, 9, 0, 4, 3, 1, 5, air, 3, 3, 33, 6};
        for (int what = 0; what < want.length; what++) {
            Check.due("promise 24: count(" + what + ")", box.count(what), want[what]);
        }
        box.letDown(3, 2, 0, false);
        Check.due("promise 24: another free tray", box.count(6), 2);
        Check.due("promise 24: the height of the box stays", box.count(7), 5);
        Check.due("promise 24: less air", box.count(8), air - 15);
        box.empty();
        Check.due("promise 24: no free trays", box.count(6), 0);
        Check.due("promise 24: no height", box.count(7), 0);
        Check.due("promise 24: no air", box.count(8), 0);
    }

    private static void countRefuses() {
        TrayBox box = filled();
        int[] wrong = {-1, 13, Integer.MIN_VALUE, Integer.MAX_VALUE};
        for (int what : wrong) {
            Check.due("promise 24: count(" + what + ")", box.count(what), TrayBox.BAD);
        }
    }

    private static void digestOfNewObject() {
        long h = 43160;
        int[] values = {6, 6, 12, 50, 0, 0, 0, 0, 0, 0, 0, 0, 0};
        for (int value : values) {
            h = 31 * h + value;
        }
        for (int cell = 0; cell < 36; cell++) {
            h = 31 * (31 * h + TrayBox.NONE);
        }
        for (int what = 0; what < 4; what++) {
            h = 31 * h;
        }
        Check.due("promise 25: digest() of a new object", new TrayBox().digest(), h);
    }

    private static void digestByItsWords() {
        TrayBox box = filled();
        Check.due("promise 25: digest() with trays in and out", box.digest(), Boxes.hash(box));
        TrayBox empty = filled();
        empty.play();
        Check.due("promise 25: digest() of an empty box", empty.digest(), Boxes.hash(empty));
        TrayBox packed = filled();
        packed.pack();
        Check.due("promise 25: digest() of a packed box", packed.digest(), Boxes.hash(packed));
        TrayBox small = filled();
        small.setBox(2, 3, 4);
        Check.due("promise 25: digest() with trays that have no place", small.digest(), Boxes.hash(small));
        TrayBox more = Boxes.loaded("1x1x1@3;1x1x1@2;1x1x1@1;1x1x1@6;1x1x1@5;1x1x1@4;");
        more.letDown(5, 0, 0, false);
        more.letDown(1, 0, 0, false);
        more.letDown(4, 0, 0, false);
        Check.due("promise 25: digest() with six trays", more.digest(), Boxes.hash(more));
    }

    private static void digestChangesNothing() {
        TrayBox box = filled();
        String before = Boxes.allAnswers(box);
        long first = box.digest();
        Check.holds("promise 25: nothing changes", before.equals(Boxes.allAnswers(box)));
        Check.due("promise 25: no change", box.count(12), 6);
        Check.due("promise 25: digest() again", box.digest(), first);
        box.type(50);
        Check.holds("promise 25: another text length, another hash", box.digest() != first);
    }
}
