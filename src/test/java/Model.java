import java.util.ArrayDeque;
import java.util.ArrayList;
import java.util.Comparator;
import java.util.Deque;
import java.util.List;
import java.util.TreeSet;

/**
 * The document once more, word by word and without regard to cost: trays are sets of cells, a play moves the trays,
 * the best order is looked for among all orders. It shares no way of working with the class that it is compared with.
 */
final class Model {
    static final int BAD = -1, STATE = -2, FULL = -3, NONE = -9;

    private static final class Piece implements Cloneable {
        int width, length, height, turn, x, y, floor;
        boolean lid, in, turned;

        Piece(int width, int length, int height, int turn) {
            this.width = width;
            this.length = length;
            this.height = height;
            this.turn = turn;
        }

        Piece copy() {
            try {
                return (Piece) clone();
            } catch (CloneNotSupportedException e) {
                throw new IllegalStateException(e);
            }
        }

        int fullHeight() {
            return lid ? height + 1 : height;
        }

        int top() {
            return floor + fullHeight();
        }

        TreeSet<Integer> cells() {
            return cellsAt(x, y, turned);
        }

        TreeSet<Integer> cellsAt(int atX, int atY, boolean asTurned) {
            TreeSet<Integer> cells = new TreeSet<>();
            for (int i = 0; i < (asTurned ? length : width); i++) {
                for (int j = 0; j < (asTurned ? width : length); j++) {
                    cells.add(100 * (atX + i) + atY + j);
                }
            }
            return cells;
        }

        void out() {
            in = false;
            turned = false;
        }
    }

    private static final class State {
        int w = 6, l = 6, d = 12, share = 50;
        List<Piece> pieces = new ArrayList<>();

        State copy() {
            State copy = new State();
            copy.w = w;
            copy.l = l;
            copy.d = d;
            copy.share = share;
            for (Piece piece : pieces) {
                copy.pieces.add(piece.copy());
            }
            return copy;
        }

        List<Piece> inBox() {
            List<Piece> in = new ArrayList<>();
            for (Piece piece : pieces) {
                if (piece.in) {
                    in.add(piece);
                }
            }
            return in;
        }

        int floorOn(TreeSet<Integer> cells) {
            int floor = 0;
            for (Piece piece : inBox()) {
                TreeSet<Integer> common = piece.cells();
                common.retainAll(cells);
                if (!common.isEmpty()) {
                    floor = Math.max(floor, piece.top());
                }
            }
            return floor;
        }

        int restOn(TreeSet<Integer> cells, int floor) {
            if (floor == 0) {
                return cells.size();
            }
            TreeSet<Integer> resting = new TreeSet<>();
            for (Piece piece : inBox()) {
                if (piece.top() == floor) {
                    TreeSet<Integer> common = piece.cells();
                    common.retainAll(cells);
                    resting.addAll(common);
                }
            }
            return resting.size();
        }

        boolean isInside(TreeSet<Integer> cells) {
            TreeSet<Integer> all = new TreeSet<>();
            for (int x = 0; x < w; x++) {
                for (int y = 0; y < l; y++) {
                    all.add(100 * x + y);
                }
            }
            return all.containsAll(cells);
        }

        boolean canBeLetDown(Piece piece, int x, int y, boolean turned) {
            TreeSet<Integer> cells = piece.cellsAt(x, y, turned);
            if (!isInside(cells)) {
                return false;
            }
            int floor = floorOn(cells);
            boolean fits = floor + piece.fullHeight() <= d;
            return fits && 100 * restOn(cells, floor) >= share * cells.size();
        }

        void letDown(Piece piece, int x, int y, boolean turned) {
            piece.floor = floorOn(piece.cellsAt(x, y, turned));
            piece.x = x;
            piece.y = y;
            piece.turned = turned;
            piece.in = true;
        }

        boolean liesOn(Piece upper, Piece lower) {
            if (upper == lower || !upper.in || !lower.in) {
                return false;
            }
            TreeSet<Integer> common = upper.cells();
            common.retainAll(lower.cells());
            return !common.isEmpty() && upper.floor >= lower.top();
        }

        boolean isAbove(Piece upper, Piece lower) {
            if (liesOn(upper, lower)) {
                return true;
            }
            for (Piece between : pieces) {
                if (liesOn(between, lower) && isAbove(upper, between)) {
                    return true;
                }
            }
            return false;
        }

        List<Piece> above(Piece lower) {
            List<Piece> above = new ArrayList<>();
            for (Piece upper : pieces) {
                if (isAbove(upper, lower)) {
                    above.add(upper);
                }
            }
            return above;
        }

        boolean isFree(Piece piece) {
            for (Piece other : pieces) {
                if (liesOn(other, piece)) {
                    return false;
                }
            }
            return true;
        }

        int faultOf(Piece piece) {
            int fault = 0;
            for (Piece upper : above(piece)) {
                if (upper.turn > piece.turn) {
                    fault++;
                }
            }
            return fault;
        }

        int faults() {
            int sum = 0;
            for (Piece piece : inBox()) {
                sum += faultOf(piece);
            }
            return sum;
        }

        int lifts() {
            int sum = 0;
            for (Piece piece : inBox()) {
                sum += above(piece).size();
            }
            return sum;
        }

        int height() {
            int height = 0;
            for (Piece piece : inBox()) {
                height = Math.max(height, piece.top());
            }
            return height;
        }

        int air() {
            int air = w * l * height();
            for (Piece piece : inBox()) {
                air -= piece.width * piece.length * piece.fullHeight();
            }
            return air;
        }

        int out() {
            return pieces.size() - inBox().size();
        }

        /** Each place as x, y, way and top. */
        List<int[]> placesOf(Piece piece) {
            List<int[]> found = new ArrayList<>();
            for (int way = 0; way < 2; way++) {
                for (int x = 0; x < w; x++) {
                    for (int y = 0; y < l; y++) {
                        boolean turned = way == 1;
                        if (turned && piece.width == piece.length) {
                            continue;
                        }
                        if (canBeLetDown(piece, x, y, turned)) {
                            int top = floorOn(piece.cellsAt(x, y, turned)) + piece.fullHeight();
                            found.add(new int[] {x, y, way, top});
                        }
                    }
                }
            }
            return found;
        }

        int[] bestPlaceOf(Piece piece) {
            List<int[]> found = placesOf(piece);
            found.sort(Comparator.<int[]>comparingInt(p -> p[3]).thenComparingInt(p -> p[1])
                    .thenComparingInt(p -> p[0]).thenComparingInt(p -> p[2]));
            return found.isEmpty() ? null : found.get(0);
        }

        void takeAllOut() {
            for (Piece piece : pieces) {
                piece.out();
            }
        }

        void packBy(List<Integer> order) {
            takeAllOut();
            for (int number : order) {
                Piece piece = pieces.get(number);
                int[] place = bestPlaceOf(piece);
                if (place != null) {
                    letDown(piece, place[0], place[1], place[2] == 1);
                }
            }
        }

        List<Integer> usualOrder() {
            List<Integer> order = new ArrayList<>();
            for (int i = 0; i < pieces.size(); i++) {
                order.add(i);
            }
            order.sort(Comparator.<Integer>comparingInt(i -> -pieces.get(i).turn)
                    .thenComparingInt(i -> -pieces.get(i).width * pieces.get(i).length).thenComparingInt(i -> i));
            return order;
        }

        List<Integer> bestOrder() {
            List<List<Integer>> orders = new ArrayList<>();
            allOrders(new ArrayList<>(), orders);
            List<Integer> best = null;
            int[] bestFigures = null;
            for (List<Integer> order : orders) {
                int[] figures = figuresOf(order);
                if (best == null || isBefore(figures, order, bestFigures, best)) {
                    best = order;
                    bestFigures = figures;
                }
            }
            return best;
        }

        // From the last order to the first one, so that the comparison of orders by numbers is needed.
        private void allOrders(List<Integer> begun, List<List<Integer>> orders) {
            if (begun.size() == pieces.size()) {
                orders.add(new ArrayList<>(begun));
                return;
            }
            for (int i = pieces.size() - 1; i >= 0; i--) {
                if (!begun.contains(i)) {
                    begun.add(i);
                    allOrders(begun, orders);
                    begun.remove(begun.size() - 1);
                }
            }
        }

        private static boolean isBefore(int[] figures, List<Integer> order, int[] others, List<Integer> otherOrder) {
            for (int i = 0; i < figures.length; i++) {
                if (figures[i] != others[i]) {
                    return figures[i] < others[i];
                }
            }
            for (int i = 0; i < order.size(); i++) {
                if (!order.get(i).equals(otherOrder.get(i))) {
                    return order.get(i) < otherOrder.get(i);
                }
            }
            return false;
        }

        int[] figuresOf(List<Integer> order) {
            State packed = copy();
            packed.packBy(order);
            return new int[] {packed.out(), packed.faults(), packed.height(), packed.air()};
        }

        /** Plays until the piece has been got (the whole play without one), and answers the lifts. */
        int play(Piece last) {
            int lifts = 0;
            for (int turn = 0; turn <= 9; turn++) {
                for (Piece piece : pieces) {
                    if (piece.in && piece.turn == turn) {
                        lifts += get(piece);
                        if (piece == last) {
                            return lifts;
                        }
                    }
                }
            }
            return lifts;
        }

        private int get(Piece piece) {
            List<Piece> lifted = above(piece);
            for (Piece upper : lifted) {
                upper.in = false;
            }
            piece.out();
            List<Piece> again = new ArrayList<>(lifted);
            again.sort(Comparator.<Piece>comparingInt(p -> p.floor).thenComparingInt(pieces::indexOf));
            for (Piece upper : again) {
                letDown(upper, upper.x, upper.y, upper.turned);
            }
            return lifted.size();
        }
    }

    private State now = new State();
    private final Deque<State> past = new ArrayDeque<>();
    private String text = "";
    private int faultKind = 0;

    private void record() {
        past.addLast(now.copy());
        if (past.size() > 8) {
            past.removeFirst();
        }
    }

    private Piece piece(int tray) {
        return tray >= 0 && tray < now.pieces.size() ? now.pieces.get(tray) : null;
    }

    private static boolean in(int value, int from, int to) {
        return value >= from && value <= to;
    }

    int setBox(int width, int length, int depth) {
        if (!in(width, 2, 10) || !in(length, 2, 10) || !in(depth, 1, 30)) {
            return BAD;
        }
        record();
        int before = now.inBox().size();
        now.w = width;
        now.l = length;
        now.d = depth;
        now.takeAllOut();
        return before;
    }

    int setShare(int share) {
        if (!in(share, 0, 100)) {
            return BAD;
        }
        record();
        int before = now.share;
        now.share = share;
        return before;
    }

    int type(int code) {
        if (!in(code, 32, 126)) {
            return BAD;
        }
        if (text.length() == 100) {
            return FULL;
        }
        text += (char) code;
        return text.length();
    }

    int clearText() {
        int before = text.length();
        text = "";
        return before;
    }

    int load() {
        ModelText read = new ModelText(text);
        faultKind = read.kind;
        if (read.kind != 0) {
            return -10 - read.index;
        }
        record();
        now.pieces = new ArrayList<>();
        for (int[] t : read.trays) {
            Piece piece = new Piece(t[0], t[1], t[2], t[4]);
            piece.lid = t[3] == 1;
            now.pieces.add(piece);
        }
        return now.pieces.size();
    }

    int faultKind() {
        return faultKind;
    }

    int add(int width, int length, int height, int turn) {
        if (!in(width, 1, 10) || !in(length, 1, 10) || !in(height, 1, 9) || !in(turn, 0, 9)) {
            return BAD;
        }
        if (now.pieces.size() == 12) {
            return FULL;
        }
        record();
        now.pieces.add(new Piece(width, length, height, turn));
        return now.pieces.size() - 1;
    }

    int drop(int tray) {
        Piece piece = piece(tray);
        if (piece == null) {
            return BAD;
        }
        if (piece.in) {
            return STATE;
        }
        record();
        now.pieces.remove(tray);
        return now.pieces.size();
    }

    int setTray(int tray, int what, int value) {
        Piece piece = piece(tray);
        if (piece == null || !in(what, 0, 1) || !in(value, 0, what == 0 ? 9 : 1)) {
            return BAD;
        }
        if (what == 1 && piece.in) {
            return STATE;
        }
        record();
        int before = what == 0 ? piece.turn : piece.lid ? 1 : 0;
        if (what == 0) {
            piece.turn = value;
        } else {
            piece.lid = value == 1;
        }
        return before;
    }

    int letDown(int tray, int x, int y, boolean turned) {
        Piece piece = piece(tray);
        if (piece == null || !in(x, 0, 9) || !in(y, 0, 9) || !now.isInside(piece.cellsAt(x, y, turned))) {
            return BAD;
        }
        if (piece.in) {
            return STATE;
        }
        if (!now.canBeLetDown(piece, x, y, turned)) {
            return FULL;
        }
        record();
        now.letDown(piece, x, y, turned);
        return piece.floor;
    }

    int takeOut(int tray) {
        Piece piece = piece(tray);
        if (piece == null) {
            return BAD;
        }
        if (!piece.in || !now.isFree(piece)) {
            return STATE;
        }
        record();
        piece.out();
        return piece.floor;
    }

    int empty() {
        record();
        int before = now.inBox().size();
        now.takeAllOut();
        return before;
    }

    int tray(int tray, int what) {
        Piece piece = piece(tray);
        if (piece == null || !in(what, 0, 15)) {
            return BAD;
        }
        if (what >= 7 && !piece.in) {
            return NONE;
        }
        int mask = 0;
        for (Piece upper : now.above(piece)) {
            mask += 1 << now.pieces.indexOf(upper);
        }
        switch (what) {
            case 0: return piece.width;
            case 1: return piece.length;
            case 2: return piece.height;
            case 3: return piece.turn;
            case 4: return piece.lid ? 1 : 0;
            case 5: return piece.in ? 1 : 0;
            case 6: return piece.turned ? 1 : 0;
            case 7: return piece.x;
            case 8: return piece.y;
            case 9: return piece.floor;
            case 10: return piece.top();
            case 11: return now.above(piece).size();
            case 12: return now.faultOf(piece);
            case 13: return now.isFree(piece) ? 1 : 0;
            case 14: return mask;
            default: return now.restOn(piece.cells(), piece.floor);
        }
    }

    int seen(int x, int y, boolean top) {
        if (!in(x, 0, now.w - 1) || !in(y, 0, now.l - 1)) {
            return BAD;
        }
        Piece uppermost = null;
        for (Piece piece : now.inBox()) {
            if (piece.cells().contains(100 * x + y) && (uppermost == null || piece.floor > uppermost.floor)) {
                uppermost = piece;
            }
        }
        if (uppermost == null) {
            return top ? 0 : NONE;
        }
        return top ? uppermost.top() : now.pieces.indexOf(uppermost);
    }

    int place(int tray, int what) {
        Piece piece = piece(tray);
        if (piece == null || !in(what, 0, 3)) {
            return BAD;
        }
        if (piece.in) {
            return STATE;
        }
        int[] place = now.bestPlaceOf(piece);
        return place == null ? NONE : place[what];
    }

    int places(int tray) {
        Piece piece = piece(tray);
        if (piece == null) {
            return BAD;
        }
        return piece.in ? STATE : now.placesOf(piece).size();
    }

    int pack() {
        record();
        now.packBy(now.usualOrder());
        return now.out();
    }

    int packBest() {
        if (now.pieces.size() > 5) {
            return STATE;
        }
        record();
        now.packBy(now.bestOrder());
        return now.out();
    }

    int ifPacked(boolean best, int what) {
        if (!in(what, 0, 3) && what < 10) {
            return BAD;
        }
        if (best && now.pieces.size() > 5) {
            return STATE;
        }
        List<Integer> order = best ? now.bestOrder() : now.usualOrder();
        if (what <= 3) {
            return now.figuresOf(order)[what];
        }
        return what - 10 < order.size() ? order.get(what - 10) : NONE;
    }

    int play() {
        record();
        int lifts = now.play(null);
        Check.holds("after a play all trays of the model are out", now.inBox().isEmpty());
        return lifts;
    }

    int liftsTo(int tray) {
        Piece piece = piece(tray);
        if (piece == null) {
            return BAD;
        }
        if (!piece.in) {
            return STATE;
        }
        State played = now.copy();
        return played.play(played.pieces.get(tray));
    }

    int undo() {
        if (past.isEmpty()) {
            return STATE;
        }
        now = past.removeLast();
        return past.size();
    }

    int count(int what) {
        int free = 0;
        for (Piece piece : now.inBox()) {
            free += now.isFree(piece) ? 1 : 0;
        }
        int[] counts = {now.w, now.l, now.d, now.share, now.pieces.size(), now.inBox().size(), free, now.height(),
            now.air(), now.faults(), now.lifts(), text.length(), past.size()};
        return in(what, 0, 12) ? counts[what] : BAD;
    }

    long digest() {
        List<Integer> values = new ArrayList<>();
        for (int what = 0; what <= 12; what++) {
            values.add(count(what));
        }
        for (int i = 0; i < now.pieces.size(); i++) {
            for (int what = 0; what <= 15; what++) {
                values.add(tray(i, what));
            }
            values.add(place(i, 0));
            values.add(place(i, 3));
        }
        for (int x = 0; x < now.w; x++) {
            for (int y = 0; y < now.l; y++) {
                values.add(seen(x, y, false));
                values.add(seen(x, y, true));
            }
        }
        for (int what = 0; what <= 3; what++) {
            values.add(ifPacked(false, what));
        }
        for (int i = 0; i < now.pieces.size(); i++) {
            if (now.pieces.get(i).in) {
                values.add(liftsTo(i));
            }
        }
        long h = 43160;
        for (int value : values) {
            h = 31 * h + value;
        }
        return h;
    }
}
