import java.io.IOException;
import java.lang.reflect.Constructor;
import java.lang.reflect.Field;
import java.lang.reflect.Method;
import java.lang.reflect.Modifier;
import java.nio.charset.StandardCharsets;
import java.nio.file.Files;
import java.nio.file.Path;
import java.util.Set;
import java.util.TreeSet;
import java.util.regex.Matcher;
import java.util.regex.Pattern;

/** The face and the part of Java that LANGUAGE.md leaves, and that no call throws whatever its arguments are. */
public final class FaceTest {
    private static final Due DUE = new Due();
    private static final int[] VALUES = {Integer.MIN_VALUE, Integer.MIN_VALUE + 1, -1000000, -1, 0, 1, 2, 3, 4, 5, 7, 8, 15, 16, 22,
        29, 30, 60, 140, 359, 360, 999, 1469, 1470, 3809, 3810, 9999, 536870911, 1073741824, Integer.MAX_VALUE - 1, Integer.MAX_VALUE};

    public static void main(String[] args) throws IOException {
        face();
        faceOfDocument();
        membersInside();
        source(Files.readString(Path.of("src/main/java/LineDisc.java"), StandardCharsets.UTF_8));
        anyArguments();
        manyCalls();
        DUE.close();
    }

    private static void face() {
        DUE.part("face");
        Set<String> due = new TreeSet<>(Set.of("int press(int,int,int)", "int scratch(int,int,int,int)", "int polish(int)",
            "int set(int,int)", "int play(int)", "int seek(int)", "int type(char)", "int clearText()", "int fault()"));
        due.addAll(Set.of("int doAll()", "int undo()", "int keep()", "int restore()", "int frame(int,int)",
            "int symbol(int,int,boolean)", "int turn(int,int)", "int scratchOf(int,int)", "int count(int)"));
        due.addAll(Set.of("double right()", "int ifSought(int,int)", "int bestGuess(int)", "int polishFirst(int)", "int gap(int)"));
        Set<String> told = new TreeSet<>();
        for (Method method : LineDisc.class.getDeclaredMethods()) {
            if (Modifier.isPublic(method.getModifiers())) {
                told.add(signature(method));
            } else {
                DUE.holds(method.getName() + " is private", Modifier.isPrivate(method.getModifiers()));
            }
        }
        DUE.holds("the public methods " + told, told.equals(due));
        int constants = 0;
        for (Field field : LineDisc.class.getDeclaredFields()) {
            boolean shown = Modifier.isPublic(field.getModifiers());
            constants += shown ? 1 : 0;
            DUE.holds(field.getName() + " is private or a constant", shown
                ? field.getType() == int.class && Modifier.isStatic(field.getModifiers()) : Modifier.isPrivate(field.getModifiers()));
        }
        DUE.due("constants", constants, 5);
        DUE.due("constructors", LineDisc.class.getDeclaredConstructors().length, 1);
        for (Constructor<?> constructor : LineDisc.class.getDeclaredConstructors()) {
            DUE.holds("a public constructor", Modifier.isPublic(constructor.getModifiers()) && constructor.getParameterCount() == 0);
        }
        DUE.holds("final", Modifier.isFinal(LineDisc.class.getModifiers()) && Modifier.isPublic(LineDisc.class.getModifiers()));
        int[] values = {LineDisc.UNKNOWN, LineDisc.BAD_VALUE, LineDisc.FULL, LineDisc.NOT_POSSIBLE, LineDisc.NONE};
        for (int i = 0; i < values.length; i++) {
            DUE.due("constant " + i, values[i], -1 - i);
        }
    }

    /** The document's "public face": its constants with their values, and each method as it writes it. */
    private static void faceOfDocument() throws IOException {
        DUE.part("face of the document");
        Path place = Path.of("../shared/DOC.md");
        if (!Files.exists(place)) {
            System.out.println("no " + place + " here: the face is not compared with it");
            return;
        }
        String text = Files.readString(place, StandardCharsets.UTF_8);
        int from = text.indexOf("public final class LineDisc {");
        String face = text.substring(from, text.indexOf("```", from));
        Set<String> written = new TreeSet<>();
        Matcher method = Pattern.compile("public (int|double) (\\w+)\\((.*)\\);").matcher(face);
        while (method.find()) {
            written.add(method.group(1) + " " + method.group(2) + "(" + method.group(3).replaceAll(" \\w+(, )?", ",") + ")");
        }
        Matcher constant = Pattern.compile("public static final (int \\w+ = -?\\d+);").matcher(face);
        while (constant.find()) {
            written.add(constant.group(1));
        }
        DUE.holds("the face " + written, written.equals(faceOfClass()));
    }

    private static Set<String> faceOfClass() {
        Set<String> told = new TreeSet<>();
        for (Method method : LineDisc.class.getDeclaredMethods()) {
            if (Modifier.isPublic(method.getModifiers())) {
                told.add(signature(method).replaceAll("(\\w)\\)", "$1,)"));
            }
        }
        int[] values = {LineDisc.UNKNOWN, LineDisc.BAD_VALUE, LineDisc.FULL, LineDisc.NOT_POSSIBLE, LineDisc.NONE};
        String[] names = {"UNKNOWN", "BAD_VALUE", "FULL", "NOT_POSSIBLE", "NONE"};
        for (int i = 0; i < values.length; i++) {
            told.add("int " + names[i] + " = " + values[i]);
        }
        return told;
    }

    private static String signature(Method method) {
        StringBuilder text = new StringBuilder();
        for (Class<?> type : method.getParameterTypes()) {
            text.append(text.length() == 0 ? "" : ",").append(type.getSimpleName());
        }
        return method.getReturnType().getSimpleName() + " " + method.getName() + "(" + text + ")";
    }

    private static void membersInside() {
        DUE.part("classes inside");
        Set<String> shown = new TreeSet<>();
        for (Method method : LineDisc.class.getMethods()) {
            shown.add(method.getName());
        }
        int classes = 1;
        for (Class<?> inside : LineDisc.class.getDeclaredClasses()) {
            classes++;
            DUE.holds(inside + " is private and static",
                Modifier.isPrivate(inside.getModifiers()) && Modifier.isStatic(inside.getModifiers()));
            int fields = 0;
            for (Field field : inside.getDeclaredFields()) {
                fields += Modifier.isStatic(field.getModifiers()) ? 0 : 1;
            }
            DUE.holds(inside + " has few fields", fields <= 20);
            for (Method method : inside.getDeclaredMethods()) {
                boolean own = !method.isSynthetic() && !Modifier.isPublic(method.getModifiers());
                DUE.holds(method + " bears no public name", !own || !shown.contains(method.getName()));
            }
        }
        DUE.holds("at most twelve classes", classes <= 12);
    }

    private static void source(String source) {
        DUE.part("source");
        String code = source.replaceAll("(?s)/\\*.*?\\*/", "").replaceAll("//[^\n]*", "");
        String[] ruledOut = {"throw", "catch", "\\btry\\b", "finally", "synchronized", "assert", "->", "::", "protected", "package",
            "instanceof", "hashCode", "toString", "float", "static \\{", "Exact", "System\\.(?!arraycopy)", "Math\\.(?!max|min|abs)",
            "Object", "Random", "Thread", "\\bvar\\b", "\"\\s*\\+", "\\+\\s*\"", "goto"};
        for (String word : ruledOut) {
            DUE.holds("no " + word, !Pattern.compile(word).matcher(code).find());
        }
        Matcher imports = Pattern.compile("import ([^;]+);").matcher(code);
        while (imports.find()) {
            DUE.holds("import of " + imports.group(1), imports.group(1).equals("java.util.Arrays"));
        }
        Matcher arrays = Pattern.compile("Arrays\\.(\\w+)").matcher(code.replace("java.util.Arrays", ""));
        while (arrays.find()) {
            DUE.holds("Arrays." + arrays.group(1), Set.of("fill", "copyOf", "copyOfRange").contains(arrays.group(1)));
        }
        for (int i = 0; i < source.length(); i++) {
            if (source.charAt(i) > 126) {
                DUE.holds("plain sign at " + i, false);
            }
        }
        shortMethods(source.split("\n"));
    }

    private static void shortMethods(String[] lines) {
        Pattern head = Pattern.compile("( {4}| {8})(?! )[\\w\\[\\] ]+\\(.*\\) \\{");
        for (int i = 0; i < lines.length; i++) {
            Matcher matcher = head.matcher(lines[i]);
            if (matcher.matches()) {
                int end = i;
                while (end < lines.length && !lines[end].equals(matcher.group(1) + "}")) {
                    end++;
                }
                DUE.holds(lines[i].trim() + " is short", end - i <= 60);
            }
        }
    }

    private static void askAll(LineDisc x, int a, int b) {
        x.frame(a, b);
        x.symbol(a, b, true);
        x.symbol(a, b, false);
        x.turn(a, b);
        x.scratchOf(a, b);
        x.count(a);
        x.ifSought(a, b);
        x.bestGuess(a);
        x.polishFirst(a);
        x.gap(a);
        x.fault();
        x.right();
    }

    private static void doAllSorts(LineDisc x, int a, int b) {
        x.press(a, b, 3);
        x.press(a, 1, b);
        x.press(3, a, b);
        x.scratch(a, b, 0, 1);
        x.scratch(0, 1, a, b);
        x.scratch(a, 359, b, 29);
        x.polish(a);
        x.set(a, b);
        x.seek(a);
        x.play(b);
        x.type((char) a);
        x.doAll();
    }

    private static void anyArguments() {
        DUE.part("any arguments");
        int thrown = 0;
        for (int a : VALUES) {
            LineDisc x = new LineDisc();
            for (int b : VALUES) {
                try {
                    doAllSorts(x, a, b);
                    askAll(x, a, b);
                    askAll(x, b, a);
                    x.undo();
                } catch (RuntimeException | Error e) {
                    thrown++;
                    System.out.println(a + " and " + b + ": " + e);
                }
            }
        }
        DUE.due("thrown", thrown, 0);
    }

    /** What calls answer behind the 512th is free, but they may not throw. */
    private static void manyCalls() {
        DUE.part("many calls");
        LineDisc x = new LineDisc();
        Due.typeAll(x, "seek=1469;scratch=0-99@0-29;play=9;seek=0");
        for (int i = 0; i < 3000; i++) {
            x.doAll();
            x.seek(i * 7 % 1470);
            x.play(i % 999 + 1);
            x.press(i % 1470, i % 4, i % 16);
            x.polish(0);
            x.undo();
            x.restore();
            x.keep();
        }
        DUE.due("states", x.count(15), 4);
    }
}
