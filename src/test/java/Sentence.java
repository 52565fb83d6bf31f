/** A sentence of the document, or parts of one, with the answers that it asks for. */
final class Sentence {
    interface Call {
        int on(TrayBox box);
    }

    private static int withoutAnswers = 0;

    private final String name;
    private boolean isAnswered = false;

    private Sentence(String name) {
        this.name = name;
    }

    static Sentence of(String section, String... parts) {
        for (String part : parts) {
            Document.quote(section, part);
        }
        withoutAnswers++;
        return new Sentence(section + ", \"" + String.join(" .. ", parts) + "\": ");
    }

    static void checkThatAllAreAnswered() {
        Check.due("sentences that are quoted without an answer", withoutAnswers, 0);
    }

    void due(String call, long got, long want) {
        answered();
        Check.due(name + call, got, want);
    }

    void holds(String what, boolean asDue) {
        answered();
        Check.holds(name + what, asDue);
    }

    /** The call answers the error code, and nothing is changed by it. */
    void refuses(TrayBox box, String call, int code, Call made) {
        long before = box.digest();
        int kind = box.faultKind();
        due(call, made.on(box), code);
        due("digest() after the refused " + call, box.digest(), before);
        due("faultKind() after the refused " + call, box.faultKind(), kind);
    }

    /** The call is recorded, and undone again; what it has to answer is not told. */
    void isChange(TrayBox box, String call, Call made) {
        int states = box.count(12);
        long before = box.digest();
        holds(call + " succeeds", made.on(box) >= 0);
        due("count(12) after " + call, box.count(12), states + 1);
        due("undo() of " + call, box.undo(), states);
        due("digest() after undo() of " + call, box.digest(), before);
    }

    private void answered() {
        if (!isAnswered) {
            isAnswered = true;
            withoutAnswers--;
        }
    }
}
