/** Trays in the box of a game; the promises that it keeps are told in DOC.md. */
public final class TrayBox {
    public static final int BAD = -1, STATE = -2, FULL = -3, NONE = -9;

    private static final int LEAST_BOX_SIDE = 2;
    private static final int MOST_SIDE = 10;
    private static final int MOST_DEPTH = 30;
    private static final int MOST_SHARE = 100;
    private static final int MOST_TRAYS = 12;
    private static final int MOST_HEIGHT = 9;
    private static final int MOST_TURN = 9;
    private static final int FIRST_CODE = 32;
    private static final int LAST_CODE = 126;
    private static final int MOST_CHARACTERS = 100;
    private static final int MOST_STATES = 8;
    private static final int MOST_TRAYS_IN_BEST = 5;
    private static final int MOST_ORDERS = 120;
    private static final int FIGURES = 4;
    private static final int FIRST_IN_ORDER = 10;
    private static final int FIRST_PLACED_PROPERTY = 7;
    private static final int LAST_PROPERTY = 15;
    private static final int LAST_COUNT = 12;
    private static final int NO_FAULT = 0;
    private static final int WRONG_CHARACTER = 1;
    private static final int OUT_OF_RANGE = 2;
    private static final int TOO_MANY_TRAYS = 3;
    private static final int FAULT_BASE = -10;
    private static final long DIGEST_START = 43160L;

    private final Box box;
    private final History history;
    private final Text text;
    private final Finder finder;
    private final Packer packer;

    public TrayBox() {
        box = new Box();
        history = new History();
        text = new Text();
        finder = new Finder();
        packer = new Packer();
    }

    public int setBox(int width, int length, int depth) {
        if (!isWithin(width, LEAST_BOX_SIDE, MOST_SIDE) || !isWithin(length, LEAST_BOX_SIDE, MOST_SIDE)
                || !isWithin(depth, 1, MOST_DEPTH)) {
            return BAD;
        }
        int before = Integer.bitCount(box.inside());
        history.record(box);
        box.clear();
        box.width = width;
        box.length = length;
        box.depth = depth;
        return before;
    }

    public int setShare(int share) {
        if (!isWithin(share, 0, MOST_SHARE)) {
            return BAD;
        }
        int before = box.share;
        history.record(box);
        box.share = share;
        return before;
    }

    public int type(int code) {
        if (!isWithin(code, FIRST_CODE, LAST_CODE)) {
            return BAD;
        }
        if (text.length >= MOST_CHARACTERS) {
            return FULL;
        }
        text.append((char) code);
        return text.length;
    }

    public int clearText() {
        int before = text.length;
        text.length = 0;
        return before;
    }

    public int load() {
        int answer = text.read();
        if (answer >= 0) {
            history.record(box);
            box.copyTrays(text.result);
        }
        return answer;
    }

    public int faultKind() {
        return text.fault;
    }

    public int add(int width, int length, int height, int turn) {
        if (!isWithin(width, 1, MOST_SIDE) || !isWithin(length, 1, MOST_SIDE)
                || !isWithin(height, 1, MOST_HEIGHT) || !isWithin(turn, 0, MOST_TURN)) {
            return BAD;
        }
        if (box.trays >= MOST_TRAYS) {
            return FULL;
        }
        history.record(box);
        box.row[box.trays].become(width, length, height, turn);
        box.trays++;
        return box.trays - 1;
    }

    public int drop(int tray) {
        if (!box.has(tray)) {
            return BAD;
        }
        if (box.row[tray].inside) {
            return STATE;
        }
        history.record(box);
        box.remove(tray);
        return box.trays;
    }

    public int setTray(int tray, int what, int value) {
        if (!box.has(tray) || !isWithin(what, 0, 1) || !isWithin(value, 0, what == 0 ? MOST_TURN : 1)) {
            return BAD;
        }
        Tray set = box.row[tray];
        if (what == 1 && set.inside) {
            return STATE;
        }
        int before = what == 0 ? set.turn : set.lid;
        history.record(box);
        if (what == 0) {
            set.turn = value;
        } else {
            set.lid = value;
        }
        return before;
    }

    public int letDown(int tray, int x, int y, boolean turned) {
        if (!box.has(tray) || !box.encloses(box.row[tray], x, y, turned)) {
            return BAD;
        }
        Tray lowered = box.row[tray];
        if (lowered.inside) {
            return STATE;
        }
        finder.survey(box);
        if (!finder.holds(box, lowered, x, y, turned, box.highestFloor(lowered))) {
            return FULL;
        }
        history.record(box);
        lowered.lie(x, y, turned, finder.floor, finder.rest);
        return lowered.floor;
    }

    public int takeOut(int tray) {
        if (!box.has(tray)) {
            return BAD;
        }
        Tray taken = box.row[tray];
        if (!taken.inside || !box.isFree(tray)) {
            return STATE;
        }
        history.record(box);
        taken.leave();
        return taken.floor;
    }

    public int empty() {
        int before = Integer.bitCount(box.inside());
        history.record(box);
        box.clear();
        return before;
    }

    public int tray(int tray, int what) {
        if (!box.has(tray) || !isWithin(what, 0, LAST_PROPERTY)) {
            return BAD;
        }
        if (what < FIRST_PLACED_PROPERTY) {
            return box.row[tray].property(what);
        }
        return box.row[tray].inside ? placedProperty(tray, what) : NONE;
    }

    public int seen(int x, int y, boolean top) {
        if (!isWithin(x, 0, box.width - 1) || !isWithin(y, 0, box.length - 1)) {
            return BAD;
        }
        int uppermost = box.uppermost(x, y);
        if (!box.has(uppermost)) {
            return top ? 0 : NONE;
        }
        return top ? box.row[uppermost].top : uppermost;
    }

    public int place(int tray, int what) {
        if (!box.has(tray) || !isWithin(what, 0, 3)) {
            return BAD;
        }
        if (box.row[tray].inside) {
            return STATE;
        }
        finder.survey(box);
        finder.search(box, box.row[tray], true);
        if (finder.found == 0) {
            return NONE;
        }
        switch (what) {
            case 0: return finder.bestX;
            case 1: return finder.bestY;
            case 2: return finder.bestTurned ? 1 : 0;
            default: return finder.bestFloor + box.row[tray].tall();
        }
    }

    public int places(int tray) {
        if (!box.has(tray)) {
            return BAD;
        }
        if (box.row[tray].inside) {
            return STATE;
        }
        finder.survey(box);
        finder.search(box, box.row[tray], false);
        return finder.found;
    }

    public int pack() {
        packer.packUsually(box);
        return takeOverPacked();
    }

    public int packBest() {
        if (box.trays > MOST_TRAYS_IN_BEST) {
            return STATE;
        }
        packer.packByBest(box);
        return takeOverPacked();
    }

    public int ifPacked(boolean best, int what) {
        if (!isWithin(what, 0, FIGURES - 1) && what < FIRST_IN_ORDER) {
            return BAD;
        }
        if (best && box.trays > MOST_TRAYS_IN_BEST) {
            return STATE;
        }
        if (best) {
            packer.packByBest(box);
        } else {
            packer.packUsually(box);
        }
        if (what < FIGURES) {
            return packer.figures[what];
        }
        int position = what - FIRST_IN_ORDER;
        return box.has(position) ? packer.order[position] : NONE;
    }

    public int play() {
        int lifts = box.playedLifts(NONE);
        history.record(box);
        box.clear();
        return lifts;
    }

    public int liftsTo(int tray) {
        if (!box.has(tray)) {
            return BAD;
        }
        if (!box.row[tray].inside) {
            return STATE;
        }
        return box.playedLifts(tray);
    }

    public int undo() {
        if (history.size == 0) {
            return STATE;
        }
        history.restore(box);
        return history.size;
    }

    public int count(int what) {
        switch (what) {
            case 0: return box.width;
            case 1: return box.length;
            case 2: return box.depth;
            case 3: return box.share;
            case 4: return box.trays;
            case 5: return Integer.bitCount(box.inside());
            case 6: return box.freeTrays();
            case 7: return box.filledHeight();
            case 8: return box.air();
            case 9: return box.faults();
            case 10: return box.lifts();
            case 11: return text.length;
            case LAST_COUNT: return history.size;
            default: return BAD;
        }
    }

    public long digest() {
        long h = DIGEST_START;
        for (int what = 0; what <= LAST_COUNT; what++) {
            h = 31 * h + count(what);
        }
        for (int i = 0; i < box.trays; i++) {
            for (int what = 0; what <= LAST_PROPERTY; what++) {
                h = 31 * h + tray(i, what);
            }
            h = 31 * h + place(i, 0);
            h = 31 * h + place(i, 3);
        }
        for (int x = 0; x < box.width; x++) {
            for (int y = 0; y < box.length; y++) {
                h = 31 * h + seen(x, y, false);
                h = 31 * h + seen(x, y, true);
            }
        }
        packer.packUsually(box);
        for (int what = 0; what < FIGURES; what++) {
            h = 31 * h + packer.figures[what];
        }
        for (int i = 0; i < box.trays; i++) {
            if (box.row[i].inside) {
                h = 31 * h + liftsTo(i);
            }
        }
        return h;
    }

    private static boolean isWithin(int value, int least, int most) {
        return value >= least && value <= most;
    }

    private int placedProperty(int tray, int what) {
        Tray placed = box.row[tray];
        switch (what) {
            case 7: return placed.x;
            case 8: return placed.y;
            case 9: return placed.floor;
            case 10: return placed.top;
            case 11: return Integer.bitCount(box.above(tray, box.inside()));
            case 12: return box.faultOf(tray);
            case 13: return box.isFree(tray) ? 1 : 0;
            case 14: return box.above(tray, box.inside());
            default: return placed.rest;
        }
    }

    private int takeOverPacked() {
        history.record(box);
        box.copyTrays(packer.trial);
        return packer.figures[0];
    }

    /** A tray; what stands behind turned tells where it lies, and counts only while it is in the box. */
    private static final class Tray {
        int width;
        int length;
        int height;
        int turn;
        int lid;
        boolean inside;
        boolean turned;
        int x;
        int y;
        int endX;
        int endY;
        int floor;
        int top;
        // Only free trays leave the box, so what a tray rests on stays the same while it lies there.
        int rest;

        void become(int newWidth, int newLength, int newHeight, int newTurn) {
            width = newWidth;
            length = newLength;
            height = newHeight;
            turn = newTurn;
            lid = 0;
            leave();
        }

        void copyFrom(Tray other) {
            width = other.width;
            length = other.length;
            height = other.height;
            turn = other.turn;
            lid = other.lid;
            inside = other.inside;
            turned = other.turned;
            x = other.x;
            y = other.y;
            endX = other.endX;
            endY = other.endY;
            floor = other.floor;
            top = other.top;
            rest = other.rest;
        }

        void lie(int newX, int newY, boolean newTurned, int newFloor, int newRest) {
            inside = true;
            turned = newTurned;
            x = newX;
            y = newY;
            endX = newX + alongX(newTurned);
            endY = newY + alongY(newTurned);
            floor = newFloor;
            top = newFloor + tall();
            rest = newRest;
        }

        void leave() {
            inside = false;
            turned = false;
        }

        int alongX(boolean asTurned) {
            return asTurned ? length : width;
        }

        int alongY(boolean asTurned) {
            return asTurned ? width : length;
        }

        int area() {
            return width * length;
        }

        int tall() {
            return height + lid;
        }

        boolean covers(int cellX, int cellY) {
            return inside && cellX >= x && cellX < endX && cellY >= y && cellY < endY;
        }

        boolean liesOn(Tray other) {
            return inside && other.inside && floor >= other.top
                    && x < other.endX && other.x < endX && y < other.endY && other.y < endY;
        }

        int property(int what) {
            switch (what) {
                case 0: return width;
                case 1: return length;
                case 2: return height;
                case 3: return turn;
                case 4: return lid;
                case 5: return inside ? 1 : 0;
                default: return turned ? 1 : 0;
            }
        }
    }

    /** What a change records: the box, the share, and the trays with where they are. Sets of trays are bit masks. */
    private static final class Box {
        int width = 6;
        int length = 6;
        int depth = 12;
        int share = 50;
        int trays;
        final Tray[] row = new Tray[MOST_TRAYS];

        Box() {
            for (int i = 0; i < MOST_TRAYS; i++) {
                row[i] = new Tray();
            }
        }

        void copyFrom(Box other) {
            width = other.width;
            length = other.length;
            depth = other.depth;
            share = other.share;
            copyTrays(other);
        }

        void copyTrays(Box other) {
            trays = other.trays;
            for (int i = 0; i < trays; i++) {
                row[i].copyFrom(other.row[i]);
            }
        }

        void clear() {
            for (int i = 0; i < trays; i++) {
                row[i].leave();
            }
        }

        void remove(int tray) {
            for (int i = tray; i < trays - 1; i++) {
                row[i].copyFrom(row[i + 1]);
            }
            trays--;
        }

        boolean has(int tray) {
            return tray >= 0 && tray < trays;
        }

        boolean encloses(Tray tray, int x, int y, boolean turned) {
            return x >= 0 && x <= width - tray.alongX(turned) && y >= 0 && y <= length - tray.alongY(turned);
        }

        int highestFloor(Tray tray) {
            return depth - tray.tall();
        }

        int inside() {
            int set = 0;
            for (int i = 0; i < trays; i++) {
                if (row[i].inside) {
                    set |= 1 << i;
                }
            }
            return set;
        }

        int uppermost(int x, int y) {
            int found = NONE;
            int greatest = 0;
            for (int i = 0; i < trays; i++) {
                if (row[i].covers(x, y) && row[i].top > greatest) {
                    found = i;
                    greatest = row[i].top;
                }
            }
            return found;
        }

        boolean isFree(int tray) {
            return lyingOn(tray) == 0;
        }

        private int lyingOn(int tray) {
            int set = 0;
            for (int i = 0; i < trays; i++) {
                if (row[i].liesOn(row[tray])) {
                    set |= 1 << i;
                }
            }
            return set;
        }

        int above(int tray, int among) {
            int known = 0;
            int set = lyingOn(tray) & among;
            for (int round = 0; round < MOST_TRAYS && set != known; round++) {
                int added = set & ~known;
                known = set;
                for (int i = 0; i < trays; i++) {
                    if ((added & 1 << i) != 0) {
                        set |= lyingOn(i) & among;
                    }
                }
            }
            return set;
        }

        int faultOf(int tray) {
            return lateOnes(above(tray, inside()), row[tray].turn);
        }

        int faults() {
            int sum = 0;
            int inside = inside();
            for (int i = 0; i < trays; i++) {
                sum += lateOnes(above(i, inside), row[i].turn);
            }
            return sum;
        }

        private int lateOnes(int set, int turn) {
            int late = 0;
            for (int i = 0; i < trays; i++) {
                if ((set & 1 << i) != 0 && row[i].turn > turn) {
                    late++;
                }
            }
            return late;
        }

        int lifts() {
            int sum = 0;
            int inside = inside();
            for (int i = 0; i < trays; i++) {
                sum += Integer.bitCount(above(i, inside));
            }
            return sum;
        }

        int freeTrays() {
            int free = 0;
            for (int i = 0; i < trays; i++) {
                if (row[i].inside && isFree(i)) {
                    free++;
                }
            }
            return free;
        }

        int filledHeight() {
            int greatest = 0;
            for (int i = 0; i < trays; i++) {
                if (row[i].inside) {
                    greatest = Math.max(greatest, row[i].top);
                }
            }
            return greatest;
        }

        int air() {
            int air = width * length * filledHeight();
            for (int i = 0; i < trays; i++) {
                if (row[i].inside) {
                    air -= row[i].area() * row[i].tall();
                }
            }
            return air;
        }

        /**
         * The lifts of a play until the last tray has been got, or of the whole play if there is no such tray.
         * Trays that are let down again fall, but keep which of them lies on which; so their floors don't count here,
         * only which trays are still left.
         */
        int playedLifts(int last) {
            int left = inside();
            int lifts = 0;
            for (int turn = 0; turn <= MOST_TURN; turn++) {
                for (int i = 0; i < trays; i++) {
                    if (row[i].turn == turn && (left & 1 << i) != 0) {
                        lifts += Integer.bitCount(above(i, left));
                        left &= ~(1 << i);
                        if (i == last) {
                            return lifts;
                        }
                    }
                }
            }
            return lifts;
        }
    }

    /** Measures where a tray could be let down, and finds its best place. */
    private static final class Finder {
        private final int[] tops = new int[MOST_SIDE * MOST_SIDE];
        int floor;
        int rest;
        int found;
        int bestX;
        int bestY;
        boolean bestTurned;
        int bestFloor;
        int bestRest;

        void survey(Box box) {
            for (int cell = 0; cell < tops.length; cell++) {
                tops[cell] = 0;
            }
            for (int i = 0; i < box.trays; i++) {
                raise(box, box.row[i]);
            }
        }

        /** Adds a tray to the tops that were surveyed, if it is in the box. */
        void raise(Box box, Tray tray) {
            if (!tray.inside || !box.encloses(tray, tray.x, tray.y, tray.turned)) {
                return;
            }
            for (int y = tray.y; y < tray.endY; y++) {
                for (int x = tray.x; x < tray.endX; x++) {
                    int cell = y * MOST_SIDE + x;
                    tops[cell] = Math.max(tops[cell], tray.top);
                }
            }
        }

        /** Whether the tray stands there on the tops that were surveyed, its floor not above the highest one. */
        boolean holds(Box box, Tray tray, int x, int y, boolean turned, int highest) {
            floor = 0;
            rest = 0;
            if (!box.encloses(tray, x, y, turned)) {
                return false;
            }
            int endX = x + tray.alongX(turned);
            int endY = y + tray.alongY(turned);
            for (int cellY = y; cellY < endY; cellY++) {
                for (int cellX = x; cellX < endX; cellX++) {
                    int top = tops[cellY * MOST_SIDE + cellX];
                    if (top > highest) {
                        return false;
                    }
                    if (top > floor) {
                        floor = top;
                        rest = 1;
                    } else if (top == floor) {
                        rest++;
                    }
                }
            }
            return 100 * rest >= box.share * tray.area();
        }

        /**
         * Looks for places on the tops that were surveyed; found tells how many there are. If only the best one is
         * asked for, each place that is found has to be better than the one before: as they come by y, x and way,
         * of several with the same floor the first one is the best.
         */
        void search(Box box, Tray tray, boolean onlyBest) {
            found = 0;
            int highest = box.highestFloor(tray);
            int ways = tray.width == tray.length ? 1 : 2;
            for (int y = 0; y < box.length && highest >= 0; y++) {
                for (int x = 0; x < box.width && highest >= 0; x++) {
                    for (int way = 0; way < ways; way++) {
                        if (holds(box, tray, x, y, way == 1, highest)) {
                            keep(x, y, way == 1);
                            highest = onlyBest ? floor - 1 : highest;
                        }
                    }
                }
            }
        }

        private void keep(int x, int y, boolean turned) {
            found++;
            bestX = x;
            bestY = y;
            bestTurned = turned;
            bestFloor = floor;
            bestRest = rest;
        }
    }

    /** Packs the trays of a box on trial; order, figures and trial tell what it came to. */
    private static final class Packer {
        final int[] order = new int[MOST_TRAYS];
        final int[] figures = new int[FIGURES];
        final Box trial = new Box();
        private final int[] triedOrder = new int[MOST_TRAYS];
        private final int[] triedFigures = new int[FIGURES];
        private final Finder finder = new Finder();

        void packUsually(Box box) {
            trial.copyFrom(box);
            for (int k = 0; k < trial.trays; k++) {
                int position = k;
                while (position > 0 && isBefore(trial.row[k], trial.row[order[position - 1]])) {
                    order[position] = order[position - 1];
                    position--;
                }
                order[position] = k;
            }
            letDownFrom(order, 0);
            measure(figures);
        }

        private static boolean isBefore(Tray one, Tray other) {
            return one.turn > other.turn || one.turn == other.turn && one.area() > other.area();
        }

        // The orders come lexicographically, so of several with the same figures the first one is the best.
        void packByBest(Box box) {
            trial.copyFrom(box);
            for (int k = 0; k < trial.trays; k++) {
                triedOrder[k] = k;
            }
            int changed = 0;
            for (int round = 0; round < MOST_ORDERS && changed >= 0; round++) {
                letDownFrom(triedOrder, changed);
                measure(triedFigures);
                if (round == 0 || isTriedBetter()) {
                    System.arraycopy(triedOrder, 0, order, 0, MOST_TRAYS);
                    System.arraycopy(triedFigures, 0, figures, 0, FIGURES);
                }
                changed = stepToNextOrder();
            }
            letDownFrom(order, 0);
        }

        // The trays before that position lie as they would anyway: those behind them were let down later.
        private void letDownFrom(int[] byOrder, int first) {
            for (int k = first; k < trial.trays; k++) {
                trial.row[byOrder[k]].leave();
            }
            finder.survey(trial);
            for (int k = first; k < trial.trays; k++) {
                Tray tray = trial.row[byOrder[k]];
                finder.search(trial, tray, true);
                if (finder.found > 0) {
                    tray.lie(finder.bestX, finder.bestY, finder.bestTurned, finder.bestFloor, finder.bestRest);
                    finder.raise(trial, tray);
                }
            }
        }

        private void measure(int[] into) {
            into[0] = trial.trays - Integer.bitCount(trial.inside());
            into[1] = trial.faults();
            into[2] = trial.filledHeight();
            into[3] = trial.air();
        }

        private boolean isTriedBetter() {
            for (int i = 0; i < FIGURES; i++) {
                if (triedFigures[i] != figures[i]) {
                    return triedFigures[i] < figures[i];
                }
            }
            return false;
        }

        /** Answers the first position that has changed, or NONE behind the last order. */
        private int stepToNextOrder() {
            int first = trial.trays - 2;
            while (first >= 0 && triedOrder[first] > triedOrder[first + 1]) {
                first--;
            }
            if (first < 0) {
                return NONE;
            }
            int greater = trial.trays - 1;
            while (greater > first && triedOrder[greater] < triedOrder[first]) {
                greater--;
            }
            swap(first, greater);
            for (int low = first + 1, high = trial.trays - 1; low < high; low++, high--) {
                swap(low, high);
            }
            return first;
        }

        private void swap(int one, int other) {
            int kept = triedOrder[one];
            triedOrder[one] = triedOrder[other];
            triedOrder[other] = kept;
        }
    }

    /** The remembered states, in a ring that begins with the oldest one. */
    private static final class History {
        int size;
        private int oldest;
        private final Box[] ring = new Box[MOST_STATES];

        History() {
            for (int i = 0; i < MOST_STATES; i++) {
                ring[i] = new Box();
            }
        }

        void record(Box box) {
            if (size == MOST_STATES) {
                oldest = (oldest + 1) % MOST_STATES;
                size--;
            }
            ring[(oldest + size) % MOST_STATES].copyFrom(box);
            size++;
        }

        void restore(Box box) {
            if (size > 0) {
                size--;
                box.copyFrom(ring[(oldest + size) % MOST_STATES]);
            }
        }
    }

    /** The text buffer, and its reading as trays. */
    private static final class Text {
        private static final char END = 0;

        int length;
        int fault = NO_FAULT;
        final Box result = new Box();
        private final char[] signs = new char[MOST_CHARACTERS];
        private int at;
        private int number;

        void append(char sign) {
            if (length < MOST_CHARACTERS) {
                signs[length] = sign;
                length++;
            }
        }

        /** Answers the number of the trays, or tells the fault as load() does. */
        int read() {
            fault = NO_FAULT;
            at = 0;
            result.trays = 0;
            for (int i = 0; i <= MOST_TRAYS && at < length && fault == NO_FAULT; i++) {
                if (readTray()) {
                    result.trays++;
                }
            }
            return fault == NO_FAULT ? result.trays : FAULT_BASE - at;
        }

        private boolean readTray() {
            if (result.trays >= MOST_TRAYS) {
                return fail(isDigit(next()) ? TOO_MANY_TRAYS : WRONG_CHARACTER, at);
            }
            if (!readNumber(MOST_SIDE)) {
                return false;
            }
            int trayWidth = number;
            if (!readSign('x') || !readNumber(MOST_SIDE)) {
                return false;
            }
            int trayLength = number;
            if (!readSign('x') || !readNumber(MOST_HEIGHT)) {
                return false;
            }
            Tray tray = result.row[result.trays];
            tray.become(trayWidth, trayLength, number, 0);
            return readLid(tray) && readTurn(tray) && readSign(';');
        }

        private boolean readNumber(int most) {
            int first = at;
            number = 0;
            while (at < first + 2 && isDigit(next())) {
                number = 10 * number + next() - '0';
                at++;
            }
            if (at == first || isDigit(next())) {
                return fail(WRONG_CHARACTER, at);
            }
            return isWithin(number, 1, most) || fail(OUT_OF_RANGE, first);
        }

        private boolean readSign(char wanted) {
            if (next() != wanted) {
                return fail(WRONG_CHARACTER, at);
            }
            at++;
            return true;
        }

        private boolean readLid(Tray tray) {
            if (next() == 'l') {
                at++;
                tray.lid = 1;
            }
            return true;
        }

        private boolean readTurn(Tray tray) {
            if (next() != '@') {
                return true;
            }
            at++;
            if (!isDigit(next())) {
                return fail(WRONG_CHARACTER, at);
            }
            tray.turn = next() - '0';
            at++;
            return true;
        }

        private char next() {
            return at < length && at < MOST_CHARACTERS ? signs[at] : END;
        }

        // From here on the index of the fault stands in at.
        private boolean fail(int kind, int index) {
            fault = kind;
            at = index;
            return false;
        }

        private static boolean isDigit(char sign) {
            return sign >= '0' && sign <= '9';
        }
    }
}
