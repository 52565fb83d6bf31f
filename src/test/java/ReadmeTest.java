import java.io.IOException;
import java.nio.file.Files;
import java.nio.file.Path;
import java.util.ArrayDeque;
import java.util.Deque;
import java.util.List;

/** What README.md says about the calls: its examples line by line, and that it names every method and every test. */
public final class ReadmeTest {
    private static final String[] CALLS = {"setBox(width, length, depth)", "setShare(share)", "type(code)",
        "clearText()", "load()", "faultKind()", "add(width, length, height, turn)", "drop(tray)",
        "setTray(tray, what, value)", "letDown(tray, x, y, turned)", "takeOut(tray)", "empty()", "tray(tray, what)",
        "seen(x, y, top)", "place(tray, what)", "places(tray)", "pack()", "packBest()", "ifPacked(best, what)",
        "play()", "liftsTo(tray)", "undo()", "count(what)", "digest()"};

    private final List<String> lines;
    private final Deque<String> code = new ArrayDeque<>();

    private ReadmeTest() throws IOException {
        lines = Files.readAllLines(Path.of("README.md"));
        boolean isCode = false;
        for (String line : lines) {
            if (line.startsWith("```")) {
                isCode = line.equals("```java");
            } else if (isCode) {
                code.addLast(line.trim());
            }
        }
    }

    public static void main(String[] args) throws IOException {
        ReadmeTest readme = new ReadmeTest();
        readme.firstExample();
        readme.secondExample();
        Check.due("lines of the examples that are not tested", readme.code.size(), 0);
        readme.namesCallsAndCodes();
        readme.namesTests();
        Check.end();
    }

    /** The next line of the examples has this code. */
    private String says(String wanted) {
        String line = code.isEmpty() ? "" : code.removeFirst();
        Check.holds("README.md has \"" + wanted + "\" next, not \"" + line + "\"", line.startsWith(wanted));
        return line;
    }

    /** The next line has this code, and tells what it answers. */
    private void says(String wanted, int got) {
        String comment = says(wanted).replaceFirst(".*// ", "");
        String told = comment.replaceFirst("(?s)[:;].*", "");
        Check.holds("README.md tells that " + wanted + " answers " + got + ", not " + told,
                told.equals(String.valueOf(got)));
    }

    private void firstExample() {
        says("TrayBox box = new TrayBox();");
        TrayBox box = new TrayBox();
        Check.due("cells from left to right", box.count(0), 6);
        Check.due("cells from front to back", box.count(1), 6);
        Check.due("the depth", box.count(2), 12);
        Check.due("trays", box.count(4), 0);
        int large = box.add(4, 2, 2, 3);
        says("int large = box.add(4, 2, 2, 3);", large);
        int small = box.add(2, 2, 1, 5);
        says("int small = box.add(2, 2, 1, 5);", small);
        says("box.letDown(large, 0, 0, false);", box.letDown(large, 0, 0, false));
        says("box.letDown(small, 1, 0, false);", box.letDown(small, 1, 0, false));
        says("box.tray(large, 14);", box.tray(large, 14));
        says("box.tray(large, 12);", box.tray(large, 12));
        says("box.takeOut(large);", box.takeOut(large));
        says("box.liftsTo(large);", box.liftsTo(large));
        says("box.ifPacked(false, 1);", box.ifPacked(false, 1));
        String before = Boxes.allAnswers(box);
        says("box.pack();", box.pack());
        says("box.place(small, 0);", box.place(small, 0));
        says("box.undo();", box.undo());
        Check.holds("the box is as before pack()", Boxes.allAnswers(box).equals(before));
    }

    private void secondExample() {
        says("TrayBox read = new TrayBox();");
        TrayBox read = new TrayBox();
        says("for (char sign : \"4x2x2@3;2x2x1l;\".toCharArray()) {");
        says("read.type(sign);");
        says("}");
        for (char sign : "4x2x2@3;2x2x1l;".toCharArray()) {
            read.type(sign);
        }
        says("read.load();", read.load());
        says("read.type('?');", read.type('?'));
        long before = read.digest();
        says("read.load();", read.load());
        Check.due("nothing is changed by a text with a fault", read.digest(), before);
        says("read.faultKind();", read.faultKind());
    }

    private void namesCallsAndCodes() {
        String table = String.join("\n", lines);
        for (String call : CALLS) {
            Check.holds("README.md names " + call, table.contains("`" + call + "`"));
        }
        Check.holds("README.md names BAD", table.contains("`BAD` (" + TrayBox.BAD + ")"));
        Check.holds("README.md names STATE", table.contains("`STATE` (" + TrayBox.STATE + ")"));
        Check.holds("README.md names FULL", table.contains("`FULL` (" + TrayBox.FULL + ")"));
        Check.holds("README.md names NONE", table.contains("`NONE` (" + TrayBox.NONE + ")"));
        Check.holds("README.md tells how to run the tests", table.contains(".ci/run"));
    }

    private void namesTests() throws IOException {
        String all = String.join("\n", lines);
        try (var files = Files.list(Path.of("src/test/java"))) {
            files.map(file -> file.getFileName().toString()).filter(name -> name.endsWith("Test.java"))
                    .map(name -> name.replace(".java", ""))
                    .forEach(name -> Check.holds("README.md names " + name, all.contains("`" + name + "`")));
        }
    }
}
