/** Long runs of calls, chosen by a fixed row of numbers, against the model of the document. */
public final class ModelTest {
    private static final int RUNS = 260;
    private static final int CALLS = 512;
    private static final int[] EXTREMES = {Integer.MIN_VALUE, Integer.MAX_VALUE, -1, -2, 10, 11, 12, 13, 16, 31, 100,
        101, 127, Integer.MIN_VALUE + 1, Integer.MAX_VALUE - 1, 1 << 30};

    private long seed;
    private final TrayBox box = new TrayBox();
    private final Model model = new Model();
    private final int run;
    private int calls = 0;
    private int most;

    private ModelTest(int run) {
        this.run = run;
        this.seed = 7919L * run + 13;
        // Small objects get deep piles and best orders, large ones get every tray and place.
        this.most = new int[] {4, 5, 8, 12}[run % 4];
    }

    public static void main(String[] args) {
        for (int run = 1; run <= RUNS && Check.isAllRight(); run++) {
            new ModelTest(run).runCalls();
        }
        Check.end();
    }

    private void runCalls() {
        startWithShape();
        while (calls < CALLS - 9 && Check.isAllRight()) {
            step();
        }
        due("digest()", box.digest(), model.digest());
        due("faultKind()", box.faultKind(), model.faultKind());
        for (int i = 0; i < 4; i++) {
            due("undo()", box.undo(), model.undo());
        }
        due("digest()", box.digest(), model.digest());
    }

    private void startWithShape() {
        int w = pick(2, 10);
        int l = pick(2, 10);
        int d = pick(1, 30);
        due("setBox(" + w + ", " + l + ", " + d + ")", box.setBox(w, l, d), model.setBox(w, l, d));
        int share = new int[] {0, 20, 50, 100}[pick(0, 3)];
        due("setShare(" + share + ")", box.setShare(share), model.setShare(share));
        for (int i = pick(0, most); i > 0; i--) {
            add();
        }
    }

    private void step() {
        int kind = pick(0, 99);
        if (kind < 30) {
            letDown();
        } else if (kind < 38) {
            int tray = anyTray();
            due("takeOut(" + tray + ")", box.takeOut(tray), model.takeOut(tray));
        } else if (kind < 46) {
            changeTrays();
        } else if (kind < 50) {
            changeBox();
        } else if (kind < 60) {
            askTray();
        } else if (kind < 66) {
            int x = coordinate();
            int y = coordinate();
            boolean top = pick(0, 1) == 1;
            due("seen(" + x + ", " + y + ", " + top + ")", box.seen(x, y, top), model.seen(x, y, top));
        } else if (kind < 74) {
            askPlace();
        } else if (kind < 80) {
            pack();
        } else if (kind < 86) {
            int tray = anyTray();
            due("liftsTo(" + tray + ")", box.liftsTo(tray), model.liftsTo(tray));
        } else if (kind < 88) {
            due("undo()", box.undo(), model.undo());
        } else if (kind < 94) {
            int what = orExtreme(pick(-1, 13));
            due("count(" + what + ")", box.count(what), model.count(what));
        } else if (kind < 95) {
            due("digest()", box.digest(), model.digest());
        } else {
            useText();
        }
    }

    private void letDown() {
        int tray = anyTray();
        boolean turned = pick(0, 1) == 1;
        int x = coordinate();
        int y = coordinate();
        due("letDown(" + tray + ", " + x + ", " + y + ", " + turned + ")",
                box.letDown(tray, x, y, turned), model.letDown(tray, x, y, turned));
    }

    private void changeTrays() {
        int kind = pick(0, 9);
        int tray = anyTray();
        if (kind < 5) {
            add();
        } else if (kind < 6) {
            due("drop(" + tray + ")", box.drop(tray), model.drop(tray));
        } else {
            int what = orExtreme(pick(0, 1));
            int value = orExtreme(pick(0, what == 1 ? 2 : 10));
            due("setTray(" + tray + ", " + what + ", " + value + ")",
                    box.setTray(tray, what, value), model.setTray(tray, what, value));
        }
    }

    private void add() {
        if (model.count(4) >= most && pick(0, 9) > 0) {
            return;
        }
        int width = orExtreme(pick(1, Math.max(1, Math.min(10, model.count(0) - 1))));
        int length = orExtreme(pick(1, Math.max(1, Math.min(10, model.count(1) - 1))));
        int height = orExtreme(pick(1, pick(0, 3) == 0 ? 9 : 3));
        int turn = orExtreme(pick(0, 9));
        due("add(" + width + ", " + length + ", " + height + ", " + turn + ")",
                box.add(width, length, height, turn), model.add(width, length, height, turn));
    }

    private void changeBox() {
        int kind = pick(0, 9);
        if (kind < 2) {
            int w = orExtreme(pick(2, 10));
            int l = orExtreme(pick(2, 10));
            int d = orExtreme(pick(1, 30));
            due("setBox(" + w + ", " + l + ", " + d + ")", box.setBox(w, l, d), model.setBox(w, l, d));
        } else if (kind < 8) {
            int share = orExtreme(pick(0, 1) == 0 ? pick(0, 100) : pick(0, 40));
            due("setShare(" + share + ")", box.setShare(share), model.setShare(share));
        } else {
            due("empty()", box.empty(), model.empty());
        }
    }

    private void askTray() {
        int tray = anyTray();
        int what = orExtreme(pick(0, 16));
        due("tray(" + tray + ", " + what + ")", box.tray(tray, what), model.tray(tray, what));
        for (int property = 9; property <= 15; property++) {
            if (calls < CALLS - 10) {
                due("tray(" + tray + ", " + property + ")", box.tray(tray, property), model.tray(tray, property));
            }
        }
    }

    private void askPlace() {
        int tray = anyTray();
        int what = orExtreme(pick(0, 4));
        if (pick(0, 2) == 0) {
            due("places(" + tray + ")", box.places(tray), model.places(tray));
        } else {
            due("place(" + tray + ", " + what + ")", box.place(tray, what), model.place(tray, what));
        }
    }

    private void pack() {
        int kind = pick(0, 9);
        // The model tries all orders cell by cell, which only small boxes bear.
        boolean mayTryAll = model.count(4) > 5 || model.count(4) <= 3 || model.count(0) * model.count(1) <= 24;
        boolean best = mayTryAll && pick(0, 3) == 0;
        if (kind < 2) {
            due("pack()", box.pack(), model.pack());
        } else if (kind < 3 && best) {
            due("packBest()", box.packBest(), model.packBest());
        } else if (kind < 4) {
            due("play()", box.play(), model.play());
        } else {
            int what = orExtreme(pick(0, 1) == 0 ? pick(0, 4) : pick(9, 23));
            due("ifPacked(" + best + ", " + what + ")", box.ifPacked(best, what), model.ifPacked(best, what));
        }
    }

    private void useText() {
        due("clearText()", box.clearText(), model.clearText());
        String text = trayTexts();
        for (int i = 0; i < text.length() && calls < CALLS - 20; i++) {
            int code = pick(0, 60) == 0 ? pick(30, 130) : text.charAt(i);
            due("type(" + code + ")", box.type(code), model.type(code));
        }
        due("load()", box.load(), model.load());
        due("faultKind()", box.faultKind(), model.faultKind());
    }

    private String trayTexts() {
        StringBuilder text = new StringBuilder();
        for (int i = pick(0, Math.min(4, most)); i > 0; i--) {
            text.append(pick(1, 4)).append('x').append(pick(1, 4)).append('x').append(pick(1, 3));
            if (pick(0, 2) == 0) {
                text.append('l');
            }
            if (pick(0, 2) > 0) {
                text.append('@').append(pick(0, 9));
            }
            text.append(pick(0, 30) == 0 ? ' ' : ';');
        }
        return text.toString();
    }

    private int anyTray() {
        int trays = model.count(4);
        return orExtreme(trays == 0 || pick(0, 40) == 0 ? pick(0, 12) : pick(0, trays - 1));
    }

    private int coordinate() {
        return orExtreme(pick(0, pick(0, 9) == 0 ? 10 : 4));
    }

    private int orExtreme(int value) {
        return pick(0, 60) == 0 ? EXTREMES[pick(0, EXTREMES.length - 1)] : value;
    }

    private int pick(int least, int most) {
        seed = seed * 6364136223846793005L + 1442695040888963407L;
        return least + (int) Math.floorMod(seed >>> 33, (long) (most - least + 1));
    }

    private void due(String call, long got, long want) {
        calls++;
        Check.due("run " + run + ", call " + calls + ": " + call, got, want);
    }
}
