/** "Playing", and promises 21 and 22. */
final class PlayingSentences {
    private static final int BAD = TrayBox.BAD, STATE = TrayBox.STATE;
    private static final int MIN = Integer.MIN_VALUE, MAX = Integer.MAX_VALUE;

    private PlayingSentences() {
    }

    static void run() {
        turnsAndNumbers();
        liftedAndLeftOut();
        letDownAgain();
        asTheyWere();
        standingOrNot();
        sums();
        play();
        liftsTo();
    }

    private static TrayBox tower(String text, int... fromBelow) {
        TrayBox box = Boxes.loose(4, 4, 30, text);
        for (int tray : fromBelow) {
            box.letDown(tray, 0, 0, false);
        }
        return box;
    }

    private static void due(Sentence s, TrayBox box, int... want) {
        for (int tray = 0; tray < want.length; tray++) {
            s.due("liftsTo(" + tray + ")", box.liftsTo(tray), want[tray]);
        }
    }

    private static void turnsAndNumbers() {
        Sentence turns = Sentence.of("Playing", "To play a box means: for the turns 0 to 9, one after the other,");
        String text = "1x1x1@0;1x1x1@1;1x1x1@2;1x1x1@3;1x1x1@4;1x1x1@5;1x1x1@6;1x1x1@7;1x1x1@8;1x1x1@9;";
        TrayBox worst = tower(text, 0, 1, 2, 3, 4, 5, 6, 7, 8, 9);
        due(turns, worst, 9, 17, 24, 30, 35, 39, 42, 44, 45, 45);
        turns.due("play()", worst.play(), 45);
        TrayBox best = tower(text, 9, 8, 7, 6, 5, 4, 3, 2, 1, 0);
        due(turns, best, 0, 0, 0, 0, 0, 0, 0, 0, 0, 0);
        turns.due("play()", best.play(), 0);
        Sentence in = Sentence.of("Playing", "each tray in the box that has this turn,");
        TrayBox some = tower("1x1x1@3;1x1x1@3;1x1x1@9;1x1x1@0;", 0, 2);
        in.due("liftsTo(0)", some.liftsTo(0), 1);
        in.due("liftsTo(1) of one that is out", some.liftsTo(1), STATE);
        in.due("liftsTo(2)", some.liftsTo(2), 1);
        in.due("play()", some.play(), 1);
        Sentence numbers = Sentence.of("Playing", "by ascending numbers, is got:");
        due(numbers, tower("1x1x1@4;1x1x1@4;1x1x1@4;", 0, 1, 2), 2, 3, 3);
        due(numbers, tower("1x1x1@4;1x1x1@4;1x1x1@4;", 2, 1, 0), 0, 0, 0);
        due(numbers, tower("1x1x1@4;1x1x1@4;1x1x1@4;", 1, 2, 0), 0, 1, 1);
    }

    private static void liftedAndLeftOut() {
        Sentence lifted = Sentence.of("Playing", "all trays above it are lifted,");
        TrayBox stairs = Boxes.loose(6, 2, 30, "2x1x1@0;2x1x1@9;2x1x1@9;1x1x1@9;");
        stairs.letDown(0, 0, 0, false);
        stairs.letDown(1, 1, 0, false);
        stairs.letDown(2, 2, 0, false);
        stairs.letDown(3, 5, 0, false);
        lifted.due("liftsTo(0), with one that lies on another one", stairs.liftsTo(0), 2);
        Sentence left = Sentence.of("Playing", "it is left out of the box (not turned),");
        TrayBox two = Boxes.loose(4, 4, 30, "2x1x1@5;2x1x1@0;");
        two.letDown(0, 0, 0, true);
        two.letDown(1, 0, 0, true);
        due(left, two, 0, 0);
        left.due("play()", two.play(), 0);
        for (int tray = 0; tray < 2; tray++) {
            left.due("tray(" + tray + ", 5)", two.tray(tray, 5), 0);
            left.due("tray(" + tray + ", 6)", two.tray(tray, 6), 0);
        }
    }

    private static void letDownAgain() {
        Sentence again = Sentence.of("Playing", "and the others are let down again,");
        due(again, tower("1x1x1@0;1x1x1@1;1x1x1@2;", 0, 1, 2), 2, 3, 3);
        Sentence floors = Sentence.of("Playing", "by ascending floors,");
        due(floors, tower("1x1x1@5;1x1x1@1;1x1x1@0;", 2, 1, 0), 3, 3, 2);
        Sentence same = Sentence.of("Playing", "those with the same floor by ascending numbers,");
        TrayBox beside = Boxes.loose(4, 2, 30, "4x1x1@0;2x1x1@1;2x1x1@2;2x1x1@3;");
        beside.letDown(0, 0, 0, false);
        beside.letDown(2, 2, 0, false);
        beside.letDown(1, 0, 0, false);
        beside.letDown(3, 1, 0, false);
        due(same, beside, 3, 4, 5, 5);
    }

    private static void asTheyWere() {
        Sentence s = Sentence.of("Playing", "at the x and y and turned as they were,");
        TrayBox box = Boxes.loose(6, 6, 30, "2x1x1@0;3x1x1@1;1x1x1@2;1x1x1@2;");
        box.letDown(0, 0, 0, false);
        box.letDown(1, 1, 0, true);
        box.letDown(2, 1, 2, false);
        box.letDown(3, 3, 0, false);
        due(s, box, 2, 3, 3, 3);
        TrayBox square = Boxes.loose(6, 6, 30, "2x2x1@0;2x2x1@1;1x1x1@2;");
        square.letDown(0, 1, 1, true);
        square.letDown(1, 2, 2, true);
        square.letDown(2, 3, 3, false);
        due(s, square, 2, 3, 3);
    }

    private static void standingOrNot() {
        Sentence stand = Sentence.of("Playing", "whether they stand then or not");
        TrayBox box = Boxes.sized(4, 4, 12, 100, "1x1x2@0;1x1x2@2;2x1x1@3;1x1x1@9;");
        box.letDown(0, 0, 0, false);
        box.letDown(1, 1, 0, false);
        box.letDown(2, 0, 0, false);
        box.letDown(3, 0, 0, false);
        due(stand, box, 2, 4, 5, 5);
        Sentence fit = Sentence.of("Playing", "(they always fit).");
        TrayBox full = Boxes.loose(2, 2, 30, "2x2x9@0;2x2x9l@1;1x1x9@2;1x1x1l@3;");
        for (int tray = 0; tray < 4; tray++) {
            full.letDown(tray, 0, 0, false);
        }
        fit.due("the greatest top", full.tray(3, 10), 30);
        due(fit, full, 3, 5, 6, 6);
        fit.due("play()", full.play(), 6);
    }

    /** A tray that is above another one only by way of a third one isn't any more when the third one has been got. */
    private static void sums() {
        Sentence s = Sentence.of("Playing",
                "The lifts of a play are the sum of the lifts of the trays, each when it is got.");
        TrayBox box = Boxes.loose(6, 2, 20, "2x1x1@5;2x1x1@1;2x1x1@5;2x1x2@9;");
        for (int tray = 0; tray < 4; tray++) {
            box.letDown(tray, tray, 0, false);
        }
        s.due("the lift of the lowest one before the play", box.tray(0, 11), 3);
        due(s, box, 2, 2, 3, 3);
        s.due("play()", box.play(), 3);
    }

    private static void play() {
        TrayBox box = Boxes.loose(6, 6, 12, "3x1x1@9;1x3x2l@9;2x2x2@0;1x1x1@4;");
        box.letDown(0, 0, 0, true);
        box.letDown(1, 0, 0, false);
        box.letDown(2, 1, 0, true);
        Sentence change = Sentence.of("Promise 21", "This is a change.");
        change.isChange(box, "play()", TrayBox::play);
        Sentence lifts = Sentence.of("Promise 21", "Returns the lifts of the play.");
        lifts.due("play()", box.play(), 1);
        Sentence plays = Sentence.of("Promise 21", "Plays the box through.");
        plays.due("trays in the box", box.count(5), 0);
        plays.due("trays", box.count(4), 4);
        plays.due("a turned one", box.tray(0, 6), 0);
        plays.due("a turned one that is as long as wide", box.tray(2, 6), 0);
        plays.due("its lid stays", box.tray(1, 4), 1);
        plays.due("nothing is seen", box.seen(0, 0, true), 0);
        change.isChange(box, "play() of an empty box", TrayBox::play);
        change.isChange(new TrayBox(), "play() without trays", TrayBox::play);
        lifts.due("play() of an empty box", box.play(), 0);
        lifts.due("play() without trays", new TrayBox().play(), 0);
        TrayBox twelve = tower(Boxes.text(12), 0, 1, 2, 3, 4, 5, 6, 7, 8, 9, 10, 11);
        lifts.due("play() of twelve in the worst order", twelve.play(), 66);
    }

    private static void liftsTo() {
        TrayBox box = tower("1x1x1@3;1x1x1@4;1x1x1@5;1x1x1@0;", 0, 1, 2);
        long before = box.digest();
        Sentence tells = Sentence.of("Promise 22", "Tells how many lifts there would be until a tray has been got,"
                + " if the box were played (with its own lift).", "tray: the tray", "Returns the number;");
        due(tells, box, 2, 3, 3);
        Sentence same = Sentence.of("Promise 22", "Nothing changes.");
        same.due("digest()", box.digest(), before);
        same.due("undo()", box.undo(), 5);
        box.letDown(2, 0, 0, false);
        Sentence bad = Sentence.of("Promise 22", "BAD if there is no such tray;");
        for (int wrong : new int[] {-1, 4, 12, -9, MIN, MAX}) {
            bad.refuses(box, "liftsTo(" + wrong + ")", BAD, b -> b.liftsTo(wrong));
        }
        bad.refuses(new TrayBox(), "liftsTo(0) without trays", BAD, b -> b.liftsTo(0));
        Sentence state = Sentence.of("Promise 22", "STATE if it is not in the box.");
        state.refuses(box, "liftsTo(3)", STATE, b -> b.liftsTo(3));
        box.play();
        for (int i = 0; i < 4; i++) {
            int tray = i;
            state.refuses(box, "liftsTo(" + tray + ") after play()", STATE, b -> b.liftsTo(tray));
        }
    }
}
