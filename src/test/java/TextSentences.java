/** "Text", and promises 4 to 7. */
final class TextSentences {
    private static final int BAD = TrayBox.BAD, FULL = TrayBox.FULL;
    private static final int MIN = Integer.MIN_VALUE, MAX = Integer.MAX_VALUE;
    // Twelve trays in 99 characters, and in 100.
    private static final String IN_99 = "1x1x1@0;".repeat(11) + "01x01x01@0;";
    private static final String IN_100 = "1x1x1@0;".repeat(11) + "01x01x01l@0;";

    private TextSentences() {
    }

    static void run() {
        buffer();
        forms();
        wrongCharacters();
        wrongEnds();
        wrongNumbers();
        tooManyTrays();
        firstFaultCounts();
        type();
        clearText();
        load();
        faultedLoad();
        faultKind();
    }

    private static void reads(Sentence s, String text, int... tray) {
        TrayBox box = Boxes.withText(text);
        s.due("load() of " + text, box.load(), 1);
        s.due("faultKind() of " + text, box.faultKind(), 0);
        int[] what = {0, 1, 2, 4, 3};
        for (int i = 0; i < what.length; i++) {
            s.due("tray(0, " + what[i] + ") of " + text, box.tray(0, what[i]), tray[i]);
        }
    }

    private static void fault(Sentence s, int kind, int index, String text) {
        TrayBox box = Boxes.withText(text);
        s.due("load() of " + text, box.load(), -10 - index);
        s.due("faultKind() of " + text, box.faultKind(), kind);
        s.due("trays of " + text, box.count(4), 0);
        s.due("states of " + text, box.count(12), 0);
    }

    private static void buffer() {
        Sentence most = Sentence.of("Text", "The text buffer has at most 100 characters");
        TrayBox box = Boxes.withText(IN_99);
        most.due("characters", box.count(11), 99);
        most.due("the hundredth character", box.type(' '), 100);
        most.refuses(box, "one more", FULL, b -> b.type(' '));
        TrayBox full = Boxes.withText(IN_100 + "1");
        most.due("characters of a full one", full.count(11), 100);
        most.due("load() of a full one", full.load(), 12);
        most.due("the lid of the last tray", full.tray(11, 4), 1);
        Sentence codes = Sentence.of("Text", "with codes from 32 to 126.");
        TrayBox empty = new TrayBox();
        codes.refuses(empty, "type(31)", BAD, b -> b.type(31));
        codes.refuses(empty, "type(127)", BAD, b -> b.type(127));
        for (int code = 32; code <= 126; code++) {
            codes.due("type(" + code + ")", empty.type(code), code - 31);
        }
    }

    private static void forms() {
        Sentence semicolon = Sentence.of("Text", "It can be read as trays, each with a semicolon behind it:");
        reads(semicolon, "2x3x4;", 2, 3, 4, 0, 0);
        semicolon.due("two trays", Boxes.withText("2x3x4;5x6x7;").load(), 2);
        fault(semicolon, 1, 5, "2x3x4");
        fault(semicolon, 1, 5, "2x3x4,");
        fault(semicolon, 1, 11, "2x3x4;5x6x7");
        fault(semicolon, 1, 6, "2x3x4;;");
        fault(semicolon, 1, 0, ";");
        numberForms();
        Sentence lid = Sentence.of("Text", "then, perhaps, l (a lid),");
        reads(lid, "2x3x4l;", 2, 3, 4, 1, 0);
        reads(lid, "2x3x9l;", 2, 3, 9, 1, 0);
        fault(lid, 1, 6, "2x3x4ll;");
        fault(lid, 1, 5, "2x3x4L;");
        Sentence turn = Sentence.of("Text", "and then, perhaps, @ and its turn (a digit; 0 without it).");
        reads(turn, "2x3x4@0;", 2, 3, 4, 0, 0);
        reads(turn, "2x3x4@9;", 2, 3, 4, 0, 9);
        reads(turn, "2x3x4l@5;", 2, 3, 4, 1, 5);
        fault(turn, 1, 7, "2x3x4@5l;");
        fault(turn, 1, 7, "2x3x4@05;");
        fault(turn, 1, 6, "2x3x4@;");
        fault(turn, 1, 6, "2x3x4;@5;");
        TrayBox two = Boxes.loaded("2x3x4l@7;5x6x7;");
        turn.due("the turn of the next tray", two.tray(1, 3), 0);
        lid.due("the lid of the next tray", two.tray(1, 4), 0);
        Sentence spaces = Sentence.of("Text", "There are no spaces;");
        for (int at = 0; at <= "2x3x4l@5;".length(); at++) {
            fault(spaces, 1, at, "2x3x4l@5;".substring(0, at) + " " + "2x3x4l@5;".substring(at));
        }
        Sentence empty = Sentence.of("Text", "the empty text has no trays.");
        TrayBox box = new TrayBox();
        empty.due("load()", box.load(), 0);
        empty.due("faultKind()", box.faultKind(), 0);
        fault(empty, 1, 0, " ");
    }

    private static void numberForms() {
        Sentence s = Sentence.of("Text",
                "its width, an x, its length, an x and its height (each a number of 1 or 2 digits),");
        reads(s, "1x1x1;", 1, 1, 1, 0, 0);
        reads(s, "01x02x03;", 1, 2, 3, 0, 0);
        reads(s, "10x9x9;", 10, 9, 9, 0, 0);
        reads(s, "9x10x09;", 9, 10, 9, 0, 0);
        fault(s, 1, 2, "001x1x1;");
        fault(s, 1, 4, "1x001x1;");
        fault(s, 1, 6, "1x1x001;");
        fault(s, 1, 2, "1xx1x1;");
        fault(s, 1, 1, "1X1x1;");
        fault(s, 1, 3, "1x1X1;");
        fault(s, 1, 3, "1x1;");
        fault(s, 1, 5, "1x1x1x1;");
    }

    private static void wrongCharacters() {
        Sentence s = Sentence.of("Text",
                "The fault is 1 for a character that cannot stand at its place (its index; a digit too many, too),");
        fault(s, 1, 0, "x1x1;");
        fault(s, 1, 0, "/x1x1;");
        fault(s, 1, 0, ":x1x1;");
        fault(s, 1, 2, "1x/x1;");
        fault(s, 1, 4, "1x1x:;");
        fault(s, 1, 1, "1-x1x1;");
        fault(s, 1, 6, "1x1x1@/;");
        fault(s, 1, 6, "1x1x1@:;");
        fault(s, 1, 5, "1x1x1:");
        fault(s, 1, 5, "1x1x1m;");
        fault(s, 1, 2, "100x1x1;");
        fault(s, 1, 2, "1x-9x1;");
        fault(s, 1, 4, "1x999x1;");
        fault(s, 1, 6, "1x1x999;");
        fault(s, 1, 7, "1x1x1@99;");
        fault(s, 1, 99, IN_99 + ";");
    }

    private static void wrongEnds() {
        Sentence s = Sentence.of("Text",
                "or the end of the text where something must follow (the length of the text);");
        String whole = "10x9x8l@7;";
        for (int length = 1; length < whole.length(); length++) {
            fault(s, 1, length, whole.substring(0, length));
            fault(s, 1, 6 + length, "1x1x1;" + whole.substring(0, length));
        }
        fault(s, 1, 71, Boxes.text(12).substring(0, 71));
        fault(s, 1, 100, "01x01x01l@0;".repeat(8) + "1x1x");
    }

    private static void wrongNumbers() {
        Sentence range = Sentence.of("Text", "2 for a number that is out of its range (the index of its first digit;");
        fault(range, 2, 0, "0x1x1;");
        fault(range, 2, 0, "00x1x1;");
        fault(range, 2, 0, "11x1x1;");
        fault(range, 2, 0, "99x1x1;");
        fault(range, 2, 2, "1x0x1;");
        fault(range, 2, 3, "10x11x1;");
        fault(range, 2, 4, "1x1x0;");
        fault(range, 2, 4, "1x1x10;");
        fault(range, 2, 4, "1x1x10l;");
        fault(range, 2, 4, "1x1x00@3;");
        fault(range, 2, 10, "1x1x1;1x1x10;");
        Sentence found = Sentence.of("Text",
                "found when another character than a digit, or the end, follows, also if this cannot stand there);");
        fault(found, 2, 0, "0");
        fault(found, 2, 0, "11");
        fault(found, 2, 2, "1x0");
        fault(found, 2, 4, "1x1x10");
        fault(found, 2, 0, "0;");
        fault(found, 2, 0, "11@");
        fault(found, 2, 2, "1x0 ");
        fault(found, 2, 4, "1x1x0x");
        fault(found, 1, 2, "000x1x1;");
        fault(found, 1, 2, "110");
        fault(found, 1, 6, "1x1x100;");
        fault(found, 2, 98, "01x01x01l@0;".repeat(8) + "1x00");
    }

    private static void tooManyTrays() {
        String twelve = Boxes.text(12);
        Sentence many = Sentence.of("Text", "3 for a thirteenth tray (the index of its first digit;");
        fault(many, 3, 72, twelve + "1");
        fault(many, 3, 72, twelve + "1x1x1;");
        fault(many, 3, 72, twelve + "0x1x1;");
        fault(many, 3, 72, twelve + "999");
        fault(many, 3, 72, twelve + "1x?");
        fault(many, 3, 99, IN_99 + "0");
        Sentence other = Sentence.of("Text", "another character there is fault 1).");
        fault(other, 1, 72, twelve + ";");
        fault(other, 1, 72, twelve + "x1;");
        fault(other, 1, 72, twelve + " 1x1x1;");
        fault(other, 1, 72, twelve + "/");
        fault(other, 1, 72, twelve + ":");
        Sentence just = Sentence.of("Text", "3 for a thirteenth tray");
        just.due("twelve trays", Boxes.withText(twelve).load(), 12);
    }

    private static void firstFaultCounts() {
        Sentence s = Sentence.of("Text",
                "The text is read from left to right, and the first fault that is found counts.");
        fault(s, 2, 0, "0x1x1;?");
        fault(s, 2, 0, "11x0x1;");
        fault(s, 1, 5, "1x1x1?0x1x1;");
        fault(s, 1, 2, "110x0x1;");
        fault(s, 1, 1, "1?0x10;");
        fault(s, 2, 8, "1x1x1;1x0x1;1x1x1");
        fault(s, 2, 70, Boxes.text(11) + "1x1x0;1");
        fault(s, 3, 72, Boxes.text(12) + "0;");
    }

    private static void type() {
        TrayBox box = new TrayBox();
        Sentence range = Sentence.of("Promise 4", "code: its code, 32 to 126");
        range.refuses(box, "type(31)", BAD, b -> b.type(31));
        range.refuses(box, "type(127)", BAD, b -> b.type(127));
        Sentence then = Sentence.of("Promise 4", "Returns how many characters the text buffer has then;");
        then.due("type(32)", box.type(32), 1);
        then.due("type(126)", box.type(126), 2);
        for (int i = 3; i <= 100; i++) {
            then.due("type(49)", box.type(49), i);
        }
        Sentence full = Sentence.of("Promise 4", "FULL if it has 100.");
        full.refuses(box, "type(49)", FULL, b -> b.type(49));
        Sentence bad = Sentence.of("Promise 4", "BAD if code is out of range;");
        for (int wrong : new int[] {MIN, -1, 0, 31, 127, 128, 65536 + 49, MAX}) {
            bad.refuses(box, "type(" + wrong + ") of a full one", BAD, b -> b.type(wrong));
            bad.refuses(new TrayBox(), "type(" + wrong + ")", BAD, b -> b.type(wrong));
        }
        Sentence appends = Sentence.of("Promise 4", "Appends a character to the text buffer.");
        reads(appends, "3x2x1;", 3, 2, 1, 0, 0);
        TrayBox refused = new TrayBox();
        for (char c : "3x2x1;".toCharArray()) {
            refused.type(127);
            refused.type(c);
        }
        appends.due("a refused character is not there", refused.load(), 1);
    }

    private static void clearText() {
        TrayBox box = new TrayBox();
        Sentence had = Sentence.of("Promise 5", "Returns how many characters it had.");
        had.due("of an empty one", box.clearText(), 0);
        Boxes.typeAll(box, "?");
        had.due("of one character", box.clearText(), 1);
        Boxes.typeAll(box, IN_100);
        had.due("of a full one", box.clearText(), 100);
        Sentence empties = Sentence.of("Promise 5", "Empties the text buffer.");
        empties.due("characters", box.count(11), 0);
        empties.due("load()", box.load(), 0);
        Boxes.typeAll(box, "4x3x2;");
        empties.due("load() of what was typed then", box.load(), 1);
        empties.due("the width", box.tray(0, 0), 4);
        box.clearText();
        Boxes.typeAll(box, "4x3x2");
        empties.due("load() of what the old characters would complete", box.load(), -10 - 5);
    }

    private static void load() {
        TrayBox box = Boxes.loaded("3x2x1l@5;1x1x1;");
        box.setBox(7, 8, 9);
        box.letDown(0, 0, 0, true);
        box.letDown(1, 0, 0, false);
        box.clearText();
        Boxes.typeAll(box, "2x3x4;1x1x1@3;1x1x1;");
        Sentence change = Sentence.of("Promise 6", "This is a change.");
        change.isChange(box, "load()", TrayBox::load);
        change.isChange(new TrayBox(), "load() of the empty text", TrayBox::load);
        Sentence number = Sentence.of("Promise 6", "Returns the number of trays;");
        number.due("load()", box.load(), 3);
        Sentence stays = Sentence.of("Promise 6", "Reads the text buffer, which stays, as trays,");
        stays.due("characters", box.count(11), 20);
        stays.due("the turn of the second tray", box.tray(1, 3), 3);
        stays.due("load() once more", box.load(), 3);
        Sentence place = Sentence.of("Promise 6", "in place of the present ones;");
        place.due("trays", box.count(4), 3);
        int[] want = {2, 3, 4, 0, 0};
        for (int what = 0; what < want.length; what++) {
            place.due("tray(0, " + what + ")", box.tray(0, what), want[what]);
        }
        place.due("W", box.count(0), 7);
        Sentence out = Sentence.of("Promise 6", "all of them are out of the box.");
        out.due("trays in the box", box.count(5), 0);
        out.due("the first one", box.tray(0, 5), 0);
        out.due("it is not turned", box.tray(0, 6), 0);
        out.due("nothing is seen", box.seen(0, 0, true), 0);
        box.clearText();
        number.due("load() of the empty text", box.load(), 0);
        place.due("no trays any more", box.count(4), 0);
        number.due("load() of twelve trays", Boxes.withText(IN_100).load(), 12);
    }

    private static void faultedLoad() {
        Sentence index = Sentence.of("Promise 6", "-10 minus the index of the fault if there is one");
        index.due("a fault at 0", Boxes.withText("?").load(), -10);
        index.due("a fault at 1", Boxes.withText("1?").load(), -11);
        index.due("a fault at 99", Boxes.withText(IN_99 + "?").load(), -109);
        index.due("a fault at 100", Boxes.withText("01x01x01l@0;".repeat(8) + "1x1x").load(), -110);
        Sentence same = Sentence.of("Promise 6", "(then nothing but what faultKind() returns is changed).");
        String[] faulted = {"3x3x3@1;4x4x4@2;5x5;", "0x", "?", Boxes.text(12) + "1"};
        for (String text : faulted) {
            TrayBox box = Boxes.loaded("2x1x1l@3;1x1x1;");
            box.letDown(0, 1, 1, true);
            box.clearText();
            Boxes.typeAll(box, text);
            long before = box.digest();
            same.holds("load() of " + text + " finds a fault", box.load() <= -10);
            same.due("digest() after load() of " + text, box.digest(), before);
            same.holds("faultKind() after load() of " + text, box.faultKind() > 0);
        }
    }

    private static void faultKind() {
        Sentence latest = Sentence.of("Promise 7",
                "Returns the number of the fault that the latest call of load() found.", "Returns 1, 2 or 3;");
        TrayBox box = new TrayBox();
        Sentence none = Sentence.of("Promise 7", "0 if it found none, or there was no such call.");
        none.due("of a new object", box.faultKind(), 0);
        Boxes.typeAll(box, "?");
        none.due("before load()", box.faultKind(), 0);
        box.load();
        latest.due("a wrong character", box.faultKind(), 1);
        box.clearText();
        latest.due("after clearText()", box.faultKind(), 1);
        Boxes.typeAll(box, "0;");
        latest.due("after type()", box.faultKind(), 1);
        box.load();
        latest.due("a number out of its range", box.faultKind(), 2);
        box.clearText();
        Boxes.typeAll(box, Boxes.text(12) + "1");
        box.load();
        latest.due("a thirteenth tray", box.faultKind(), 3);
        box.add(1, 1, 1, 0);
        latest.due("after a change", box.faultKind(), 3);
        box.clearText();
        box.load();
        none.due("after a load() without a fault", box.faultKind(), 0);
    }
}
