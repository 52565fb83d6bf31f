import java.io.IOException;
import java.lang.reflect.Constructor;
import java.lang.reflect.Field;
import java.lang.reflect.Method;
import java.lang.reflect.Modifier;
import java.nio.file.Files;
import java.nio.file.Path;
import java.util.ArrayList;
import java.util.Arrays;
import java.util.List;
import java.util.Set;
import java.util.TreeSet;
import java.util.regex.Matcher;
import java.util.regex.Pattern;

/** The public face, and those rules of LANGUAGE.md that can be seen in the class or in its text. */
public final class LanguageTest {
    private static final String[] METHODS = {"int setBox(int,int,int)", "int setShare(int)", "int type(int)",
        "int clearText()", "int load()", "int faultKind()", "int add(int,int,int,int)", "int drop(int)",
        "int setTray(int,int,int)", "int letDown(int,int,int,boolean)", "int takeOut(int)", "int empty()",
        "int tray(int,int)", "int seen(int,int,boolean)", "int place(int,int)", "int places(int)", "int pack()",
        "int packBest()", "int ifPacked(boolean,int)", "int play()", "int liftsTo(int)", "int undo()",
        "int count(int)", "long digest()"};
    private static final String[] CONSTANTS = {"BAD", "STATE", "FULL", "NONE"};
    private static final String[] FORBIDDEN = {"\\bthrows?\\b", "\\btry\\b", "\\bcatch\\b", "\\bsynchronized\\b",
        "\\bassert\\b", "\\bimport\\b", "\\bpackage\\b", "->", "::", "\\bvar\\b", "\\bprotected\\b", "\\bnative\\b",
        "\\bvolatile\\b", "\\bObject\\b", "Exact\\b", "\\bpublic\\s+static\\s+(?!final)", "\"\\s*\\+",
        "\\bstatic\\s*\\{", "@"};
    // What the class may name with a dot in front of a bracket, and isn't its own.
    private static final Set<String> LIBRARY = new TreeSet<>(Arrays.asList("Integer.bitCount", "Math.max",
        "System.arraycopy"));

    private LanguageTest() {
    }

    public static void main(String[] args) throws IOException {
        face();
        constants();
        nestedClasses();
        sourceText();
        methodLengths();
        smallRoom();
        Check.end();
    }

    private static void face() {
        Set<String> found = new TreeSet<>();
        Set<String> publicNames = new TreeSet<>();
        List<String> privateNames = new ArrayList<>();
        List<Method> methods = new ArrayList<>(Arrays.asList(TrayBox.class.getDeclaredMethods()));
        for (Class<?> nested : TrayBox.class.getDeclaredClasses()) {
            methods.addAll(Arrays.asList(nested.getDeclaredMethods()));
        }
        for (Method method : methods) {
            boolean isOfTheFace = Modifier.isPublic(method.getModifiers());
            if (isOfTheFace) {
                found.add(wordsOf(method));
                publicNames.add(method.getName());
            } else {
                privateNames.add(method.getName());
                boolean isNested = method.getDeclaringClass() != TrayBox.class;
                Check.holds("rule 1: " + method + " is private",
                        isNested || Modifier.isPrivate(method.getModifiers()));
            }
            Check.holds("rule 11: parameters of " + method, method.getParameterCount() <= 7);
        }
        for (String name : privateNames) {
            Check.holds("rule 1: no public method is named " + name, !publicNames.contains(name));
        }
        Check.holds("rule 1: the public methods are " + found, found.equals(new TreeSet<>(Arrays.asList(METHODS))));
        Constructor<?>[] constructors = TrayBox.class.getDeclaredConstructors();
        Check.holds("rule 1: the constructor", constructors.length == 1 && constructors[0].getParameterCount() == 0
                && Modifier.isPublic(constructors[0].getModifiers()));
        Check.holds("rule 1: the class is public and final", Modifier.isPublic(TrayBox.class.getModifiers())
                && Modifier.isFinal(TrayBox.class.getModifiers()));
    }

    private static String wordsOf(Method method) {
        List<String> types = new ArrayList<>();
        for (Class<?> type : method.getParameterTypes()) {
            types.add(type.getName());
        }
        return method.getReturnType().getName() + " " + method.getName() + "(" + String.join(",", types) + ")";
    }

    private static void constants() {
        Check.due("BAD", TrayBox.BAD, -1);
        Check.due("STATE", TrayBox.STATE, -2);
        Check.due("FULL", TrayBox.FULL, -3);
        Check.due("NONE", TrayBox.NONE, -9);
        Set<String> found = new TreeSet<>();
        for (Field field : TrayBox.class.getDeclaredFields()) {
            if (Modifier.isPublic(field.getModifiers())) {
                found.add(field.getName());
            } else {
                Check.holds("rule 1: " + field + " is private", Modifier.isPrivate(field.getModifiers()));
            }
        }
        Check.holds("rule 1: the constants", found.equals(new TreeSet<>(Arrays.asList(CONSTANTS))));
    }

    private static void nestedClasses() {
        List<Class<?>> all = new ArrayList<>(Arrays.asList(TrayBox.class.getDeclaredClasses()));
        for (Class<?> nested : all) {
            int modifiers = nested.getModifiers();
            Check.holds("rule 2: " + nested + " is static", Modifier.isStatic(modifiers));
            Check.holds("rule 1: " + nested + " is private", Modifier.isPrivate(modifiers));
            Check.due("rule 2: classes inside " + nested, nested.getDeclaredClasses().length, 0);
        }
        all.add(TrayBox.class);
        Check.holds("rule 11: at most twelve classes", all.size() <= 12);
        for (Class<?> one : all) {
            int fields = 0;
            for (Field field : one.getDeclaredFields()) {
                boolean isStatic = Modifier.isStatic(field.getModifiers());
                Check.holds("rule 5: " + field + " is final", !isStatic || Modifier.isFinal(field.getModifiers()));
                fields += isStatic ? 0 : 1;
            }
            Check.holds("rule 11: fields of " + one, fields <= 20);
        }
    }

    private static String source() throws IOException {
        return Files.readString(Path.of("src/main/java/TrayBox.java"));
    }

    private static void sourceText() throws IOException {
        String source = source();
        Check.holds("all characters are plain", source.chars().allMatch(c -> c == '\n' || c >= 32 && c <= 126));
        String code = source.replaceAll("(?s)/\\*.*?\\*/", "").replaceAll("//[^\n]*", "")
                .replaceAll("'(\\\\.|[^'])'", "' '");
        for (String forbidden : FORBIDDEN) {
            Matcher matcher = Pattern.compile(forbidden).matcher(code);
            Check.holds("rule 6 and others: nothing like " + forbidden, !matcher.find());
        }
        Matcher calls = Pattern.compile("\\b[A-Z]\\w*\\.\\w+(?=\\()").matcher(code);
        while (calls.find()) {
            Check.holds("rule 4: " + calls.group() + " is in the library", LIBRARY.contains(calls.group()));
        }
        Check.due("rule 12: all arrays and objects are made in constructors", made(code), 0);
    }

    /** Counts the lines that make something and stand neither in a constructor nor at a field. */
    private static int made(String code) {
        int wrong = 0;
        boolean isInConstructor = false;
        for (String line : code.split("\n")) {
            if (line.matches("    (    )?\\S.*\\{")) {
                isInConstructor = line.matches("\\s*(public )?[A-Z]\\w*\\(\\) \\{");
            }
            boolean isField = line.matches("\\s*(private )?final .*= new .*;");
            if (line.contains("new ") && !isInConstructor && !isField) {
                wrong++;
                System.out.println("made outside a constructor: " + line);
            }
        }
        return wrong;
    }

    private static void methodLengths() throws IOException {
        String[] lines = source().split("\n");
        int start = 0;
        for (int i = 0; i < lines.length; i++) {
            if (lines[i].matches("    (    )?\\S.*\\) \\{")) {
                start = i;
            }
            if (lines[i].matches("    (    )?\\}")) {
                Check.holds("rule 11: the method at line " + (start + 1) + " is short", i - start < 60
                        || lines[start].contains("class "));
            }
        }
    }

    /** Only a new object takes room: the dearest calls make nothing, however often they are called. */
    private static void smallRoom() {
        TrayBox box = Boxes.loose(10, 10, 30, "4x2x2l@1;3x2x1@2;5x1x1@3;2x2x3@4;1x3x1@5;");
        com.sun.management.ThreadMXBean meter =
                (com.sun.management.ThreadMXBean) java.lang.management.ManagementFactory.getThreadMXBean();
        callAll(box);
        meter.getCurrentThreadAllocatedBytes();
        long before = meter.getCurrentThreadAllocatedBytes();
        for (int i = 0; i < 20; i++) {
            callAll(box);
        }
        long made = meter.getCurrentThreadAllocatedBytes() - before;
        Check.holds("rule 12: " + made + " bytes are made by twenty rounds of calls", made < 10_000);
    }

    private static void callAll(TrayBox box) {
        box.packBest();
        box.ifPacked(true, 0);
        box.ifPacked(false, 10);
        box.undo();
        box.empty();
        box.digest();
        box.letDown(0, 0, 0, false);
        box.letDown(1, 0, 0, false);
        box.place(2, 0);
        box.places(3);
        box.liftsTo(0);
        box.seen(0, 0, true);
        box.count(9);
        box.takeOut(1);
        box.setTray(0, 0, 1);
        box.setShare(0);
        box.type(49);
        box.load();
        box.play();
        box.pack();
        box.setBox(10, 10, 30);
        box.clearText();
        Boxes.typeAll(box, "4x2x2l@1;3x2x1@2;5x1x1@3;2x2x3@4;1x3x1@5;");
        box.load();
    }
}
