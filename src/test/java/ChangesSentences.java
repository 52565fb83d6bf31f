import java.lang.reflect.Modifier;
import java.util.Arrays;
import java.util.LinkedHashMap;
import java.util.Map;

/** "Changes and errors", and promise 23. */
final class ChangesSentences {
    private static final int BAD = TrayBox.BAD, STATE = TrayBox.STATE, FULL = TrayBox.FULL, NONE = TrayBox.NONE;

    private ChangesSentences() {
    }

    static void run() {
        whatIsAChange();
        whatIsNoChange();
        whatIsRecorded();
        atMostEight();
        oldestIsDropped();
        latestIsRestored();
        errorCodes();
        orderOfErrorCodes();
        refusedCallsChangeNothing();
        none();
        undo();
        form();
    }

    /** Five trays: two in the box, one on the other, one of them turned; the others out of it. */
    private static TrayBox begun() {
        TrayBox box = Boxes.withText("2x3x1@4;1x1x2l@9;3x1x1@2;4x1x1;1x2x3;");
        box.load();
        box.letDown(0, 0, 0, true);
        box.letDown(1, 1, 1, false);
        return box;
    }

    private static Map<String, Sentence.Call> changes() {
        Map<String, Sentence.Call> changes = new LinkedHashMap<>();
        changes.put("setBox", b -> b.setBox(7, 8, 9));
        changes.put("setShare", b -> b.setShare(10));
        changes.put("load", TrayBox::load);
        changes.put("add", b -> b.add(4, 4, 4, 4));
        changes.put("drop", b -> b.drop(2));
        changes.put("setTray of a turn", b -> b.setTray(0, 0, 1));
        changes.put("setTray of a lid", b -> b.setTray(3, 1, 1));
        changes.put("letDown", b -> b.letDown(3, 1, 3, false));
        changes.put("takeOut", b -> b.takeOut(1));
        changes.put("empty", TrayBox::empty);
        changes.put("pack", TrayBox::pack);
        changes.put("packBest", TrayBox::packBest);
        changes.put("play", TrayBox::play);
        return changes;
    }

    private static void whatIsAChange() {
        Sentence s = Sentence.of("Changes and errors", "Changes are the successful calls of setBox, setShare, load,"
                + " add, drop, setTray, letDown, takeOut, empty, pack, packBest and play.");
        for (Map.Entry<String, Sentence.Call> change : changes().entrySet()) {
            TrayBox box = begun();
            long before = box.digest();
            s.holds(change.getKey() + " succeeds", change.getValue().on(box) >= 0);
            s.due("states after " + change.getKey(), box.count(12), 4);
            s.holds(change.getKey() + " changes something", box.digest() != before);
        }
        s.isChange(new TrayBox(), "setBox as it was", b -> b.setBox(6, 6, 12));
        s.isChange(new TrayBox(), "setShare as it was", b -> b.setShare(50));
        s.isChange(new TrayBox(), "load of the empty text", TrayBox::load);
        s.isChange(Boxes.withTrays(1), "setTray as it was", b -> b.setTray(0, 0, 0));
        s.isChange(new TrayBox(), "empty of an empty box", TrayBox::empty);
        s.isChange(new TrayBox(), "pack without trays", TrayBox::pack);
        s.isChange(new TrayBox(), "packBest without trays", TrayBox::packBest);
        s.isChange(new TrayBox(), "play without trays", TrayBox::play);
    }

    private static void whatIsNoChange() {
        Sentence s = Sentence.of("Changes and errors", "Changes are the successful calls of setBox");
        TrayBox box = begun();
        box.type(';');
        box.clearText();
        box.faultKind();
        box.tray(0, 14);
        box.seen(0, 0, true);
        box.place(3, 0);
        box.places(3);
        box.ifPacked(true, 0);
        box.ifPacked(false, 10);
        box.liftsTo(0);
        box.count(8);
        box.digest();
        s.due("states after calls of all others", box.count(12), 3);
        box.undo();
        s.due("states after undo()", box.count(12), 2);
    }

    private static void whatIsRecorded() {
        Sentence s = Sentence.of("Changes and errors",
                "Each change records the state before it: the box, the share, and the trays with where they are.");
        for (Map.Entry<String, Sentence.Call> change : changes().entrySet()) {
            TrayBox box = begun();
            String before = Boxes.allAnswers(box);
            change.getValue().on(box);
            box.undo();
            s.holds("all is as before when " + change.getKey() + " is undone", before.equals(Boxes.allAnswers(box)));
        }
        TrayBox text = Boxes.withText("1x1x1;");
        text.load();
        text.clearText();
        text.undo();
        s.due("the text is no part of it", text.count(11), 0);
        TrayBox twelve = Boxes.loose(10, 10, 30, Boxes.text(12));
        twelve.pack();
        twelve.clearText();
        long packed = twelve.digest();
        twelve.load();
        twelve.undo();
        s.due("digest() with twelve trays in the box", twelve.digest(), packed);
    }

    private static void atMostEight() {
        Sentence s = Sentence.of("Changes and errors", "At most 8 recorded states are remembered:");
        TrayBox box = new TrayBox();
        for (int share = 1; share <= 8; share++) {
            box.setShare(share);
            s.due("states after " + share + " changes", box.count(12), share);
        }
        box.setShare(9);
        s.due("states after nine changes", box.count(12), 8);
        TrayBox eight = new TrayBox();
        for (int share = 1; share <= 8; share++) {
            eight.setShare(share);
        }
        for (int left = 7; left >= 0; left--) {
            s.due("undo() of one of eight", eight.undo(), left);
        }
        s.due("the share at first", eight.count(3), 50);
    }

    private static void oldestIsDropped() {
        Sentence s = Sentence.of("Changes and errors", "when one more is recorded, the oldest one is dropped;");
        for (int changes = 9; changes <= 30; changes++) {
            TrayBox box = new TrayBox();
            for (int share = 1; share <= changes; share++) {
                box.setShare(share);
            }
            for (int back = 1; back <= 8; back++) {
                s.due("undo() " + back + " of " + changes, box.undo(), 8 - back);
                s.due("the share then", box.count(3), changes - back);
            }
            s.due("one more undo()", box.undo(), STATE);
            s.due("the share after it", box.count(3), changes - 8);
        }
        TrayBox full = new TrayBox();
        for (int share = 1; share <= 8; share++) {
            full.setShare(share);
        }
        full.setShare(101);
        full.drop(0);
        full.digest();
        s.due("none is dropped by a refused call", full.count(12), 8);
        for (int back = 0; back < 8; back++) {
            full.undo();
        }
        s.due("the share at first", full.count(3), 50);
    }

    private static void latestIsRestored() {
        Sentence s = Sentence.of("Changes and errors", "undo restores the latest one and removes it.");
        TrayBox box = new TrayBox();
        box.setShare(1);
        box.setShare(2);
        box.undo();
        s.due("the share before the latest change", box.count(3), 1);
        s.due("states", box.count(12), 1);
        box.setShare(3);
        box.undo();
        s.due("the share before another change", box.count(3), 1);
        box.undo();
        s.due("the share before the first change", box.count(3), 50);
        s.due("states", box.count(12), 0);
        Sentence kind = Sentence.of("Changes and errors", "(What faultKind() returns stays.)");
        TrayBox text = Boxes.withText("1x1x1;");
        text.load();
        text.type('0');
        text.type(';');
        text.load();
        text.undo();
        kind.due("faultKind() after undo() of the load before", text.faultKind(), 2);
        text.clearText();
        text.load();
        text.undo();
        kind.due("faultKind() after undo() of a load without a fault", text.faultKind(), 0);
    }

    private static void errorCodes() {
        Sentence bad = Sentence.of("Changes and errors", "The error codes are BAD (-1: an argument is out of its range,"
                + " or there is no such thing),");
        TrayBox box = Boxes.withTrays(12);
        bad.due("BAD", BAD, -1);
        bad.due("setShare(101)", box.setShare(101), -1);
        bad.due("drop(12)", box.drop(12), -1);
        Sentence state = Sentence.of("Changes and errors",
                "STATE (-2: the call is not possible now, as the method says)");
        state.due("STATE", STATE, -2);
        state.due("packBest()", box.packBest(), -2);
        Sentence full = Sentence.of("Changes and errors", "and FULL (-3: there is no room).");
        full.due("FULL", FULL, -3);
        full.due("add(1, 1, 1, 1)", box.add(1, 1, 1, 1), -3);
    }

    private static void orderOfErrorCodes() {
        Sentence s = Sentence.of("Changes and errors",
                "If several of them apply to a call, the first one in this order is returned.");
        TrayBox full = Boxes.withText("?".repeat(100));
        s.refuses(full, "type(127) of a full text", BAD, b -> b.type(127));
        s.refuses(Boxes.withTrays(12), "add(0, 1, 1, 1) to twelve", BAD, b -> b.add(0, 1, 1, 1));
        s.refuses(Boxes.withTrays(12), "add(1, 1, 1, 10) to twelve", BAD, b -> b.add(1, 1, 1, 10));
        TrayBox box = Boxes.loaded("1x1x9;1x1x9;7x1x9;1x1x1;1x1x1;1x1x1;");
        box.letDown(0, 0, 0, false);
        s.refuses(box, "setTray(0, 1, 2) in the box", BAD, b -> b.setTray(0, 1, 2));
        s.refuses(box, "setTray(0, 2, 1) in the box", BAD, b -> b.setTray(0, 2, 1));
        s.refuses(box, "letDown() in the box, and outside", BAD, b -> b.letDown(0, 6, 0, false));
        s.refuses(box, "letDown() outside, and too high", BAD, b -> b.letDown(2, 0, 0, false));
        s.refuses(box, "letDown() in the box, and too high", STATE, b -> b.letDown(0, 0, 0, false));
        s.refuses(box, "letDown() too high", FULL, b -> b.letDown(1, 0, 0, false));
        s.refuses(box, "place(0, 4) in the box", BAD, b -> b.place(0, 4));
        s.refuses(box, "ifPacked(true, 4) of six", BAD, b -> b.ifPacked(true, 4));
        s.refuses(box, "ifPacked(true, -1) of six", BAD, b -> b.ifPacked(true, -1));
    }

    private static void refusedCallsChangeNothing() {
        Sentence s = Sentence.of("Changes and errors", "A call that returns an error code changes nothing.");
        TrayBox box = begun();
        box.add(1, 1, 1, 1);
        s.refuses(box, "setBox", BAD, b -> b.setBox(2, 2, 31));
        s.refuses(box, "setShare", BAD, b -> b.setShare(101));
        s.refuses(box, "type", BAD, b -> b.type(31));
        s.refuses(box, "add", BAD, b -> b.add(1, 1, 1, 10));
        s.refuses(box, "drop of none", BAD, b -> b.drop(6));
        s.refuses(box, "drop in the box", STATE, b -> b.drop(0));
        s.refuses(box, "setTray", BAD, b -> b.setTray(0, 0, 10));
        s.refuses(box, "setTray in the box", STATE, b -> b.setTray(0, 1, 1));
        s.refuses(box, "letDown outside", BAD, b -> b.letDown(2, 4, 0, false));
        s.refuses(box, "letDown in the box", STATE, b -> b.letDown(0, 2, 2, false));
        s.refuses(box, "letDown without standing", FULL, b -> b.letDown(2, 1, 1, false));
        s.refuses(box, "takeOut of none", BAD, b -> b.takeOut(6));
        s.refuses(box, "takeOut of one that is out", STATE, b -> b.takeOut(2));
        s.refuses(box, "takeOut of one that is not free", STATE, b -> b.takeOut(0));
        s.refuses(box, "packBest", STATE, TrayBox::packBest);
        s.refuses(box, "ifPacked", STATE, b -> b.ifPacked(true, 0));
        s.refuses(new TrayBox(), "undo", STATE, TrayBox::undo);
        TrayBox text = Boxes.withText("1x1x1;");
        text.type(127);
        text.type(10);
        s.due("load() after refused characters", text.load(), 1);
        TrayBox full = Boxes.withText("1x1x1@0;".repeat(11) + "01x01x01l@0;");
        full.type('x');
        s.due("load() after a character too many", full.load(), 12);
        s.due("the fault of none", full.faultKind(), 0);
    }

    private static void none() {
        Sentence code = Sentence.of("Changes and errors", "NONE (-9) is no error code;");
        code.due("NONE", NONE, -9);
        TrayBox box = Boxes.loaded("1x1x1;7x7x1;1x1x1;1x1x1;1x1x1;1x1x1;");
        box.letDown(0, 0, 0, false);
        Sentence only = Sentence.of("Changes and errors",
                "it means that there is no such thing, and is returned only if no error code applies.");
        only.due("seen() at a cell without a tray", box.seen(1, 1, false), NONE);
        only.due("seen() at no cell", box.seen(6, 6, false), BAD);
        only.due("tray() of one that is out", box.tray(1, 7), NONE);
        only.due("tray() of one that is out, without such a property", box.tray(1, 16), BAD);
        only.due("tray() of none", box.tray(6, 7), BAD);
        only.due("place() without a place", box.place(1, 3), NONE);
        only.due("place() without a place, and no such number", box.place(1, 4), BAD);
        only.due("place() of one in the box that fills it", largest().place(0, 0), STATE);
        only.due("ifPacked(false, 16) of six", box.ifPacked(false, 16), NONE);
        only.due("ifPacked(true, 16) of six", box.ifPacked(true, 16), STATE);
    }

    private static TrayBox largest() {
        TrayBox box = Boxes.loaded("6x6x9;");
        box.letDown(0, 0, 0, false);
        return box;
    }

    private static void undo() {
        Sentence none = Sentence.of("Promise 23", "STATE if there is none.");
        TrayBox box = new TrayBox();
        none.refuses(box, "undo() of a new object", STATE, TrayBox::undo);
        box.type('1');
        none.refuses(box, "undo() after type()", STATE, TrayBox::undo);
        box.clearText();
        box.add(1, 1, 1, 1);
        box.letDown(0, 2, 3, true);
        Sentence left = Sentence.of("Promise 23", "Returns how many states are still remembered;");
        left.due("undo() of two", box.undo(), 1);
        Sentence restores = Sentence.of("Promise 23", "Restores the latest remembered state, and removes it.");
        restores.due("the tray is out", box.tray(0, 5), 0);
        restores.due("states", box.count(12), 1);
        left.due("undo() of one", box.undo(), 0);
        restores.due("there is no tray", box.count(4), 0);
        none.refuses(box, "undo() when all is undone", STATE, TrayBox::undo);
        box.setBox(2, 2, 1);
        left.due("undo() of another change", box.undo(), 0);
        restores.due("W", box.count(0), 6);
    }

    private static void form() {
        Sentence s = Sentence.of("Changes and errors",
                "The constructor and the methods follow, a promise each: the signature, then what it does.");
        s.due("methods of the class", TrayBox.class.getDeclaredConstructors().length
                + Arrays.stream(TrayBox.class.getDeclaredMethods())
                        .filter(method -> Modifier.isPublic(method.getModifiers())).count(), 25);
    }
}
