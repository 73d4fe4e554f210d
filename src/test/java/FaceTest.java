import java.lang.reflect.Member;
import java.lang.reflect.Method;
import java.lang.reflect.Modifier;
import java.nio.file.Files;
import java.nio.file.Path;
import java.util.ArrayList;
import java.util.List;
import java.util.Set;
import java.util.TreeSet;
import java.util.regex.Matcher;
import java.util.regex.Pattern;

/** The face of the document, and rules of LANGUAGE.md that can be seen in the text. */
public final class FaceTest {
    private static final Path TEXT = Path.of("src/main/java/MarkedSweeps.java");
    private static final Path DOCUMENT = Path.of("../shared/DOC.md");
    private static final String[] BARRED = {"throw", "try", "catch", "synchronized", "assert",
        "->", "::", "Exact(", "double", "float", "hashCode", "System.out", "Random", "valueOf",
        "volatile", "native", "equals", "toString"};
    private static int wrong = 0;

    public static void main(String[] args) throws Exception {
        face();
        members();
        barredWords();
        newOnlyAtFirst();
        lengths();
        System.exit(wrong == 0 ? 0 : 1);
    }

    private static void told(boolean right, String what) {
        if (!right) {
            wrong++;
            System.out.println(what);
        }
    }

    private static String plain(Method m) {
        List<String> types = new ArrayList<>();
        for (Class<?> type : m.getParameterTypes()) {
            types.add(type.getName());
        }
        return m.getReturnType().getName() + " " + m.getName() + types;
    }

    private static void face() throws Exception {
        Set<String> due = new TreeSet<>();
        Matcher line = Pattern.compile("    public (int|long) (\\w+)\\((.*)\\);")
            .matcher(Files.readString(DOCUMENT));
        while (line.find()) {
            List<String> types = new ArrayList<>();
            for (String parameter : line.group(3).split(",")) {
                if (!parameter.isBlank()) {
                    types.add(parameter.trim().split(" ")[0]);
                }
            }
            due.add(line.group(1) + " " + line.group(2) + types);
        }
        Set<String> got = new TreeSet<>();
        for (Method m : MarkedSweeps.class.getDeclaredMethods()) {
            if (Modifier.isPublic(m.getModifiers())) {
                got.add(plain(m));
            }
        }
        told(due.size() == 45, "the document's face has " + due.size() + " methods");
        told(due.equals(got), "the face is " + got + ", due is " + due);
        told(MarkedSweeps.class.getConstructors().length == 1, "one constructor");
        told(Modifier.isFinal(MarkedSweeps.class.getModifiers()), "the class is final");
    }

    private static void members() {
        Set<String> open = new TreeSet<>();
        for (Method m : MarkedSweeps.class.getDeclaredMethods()) {
            if (Modifier.isPublic(m.getModifiers())) {
                open.add(m.getName());
            }
        }
        hidden(MarkedSweeps.class.getDeclaredFields());
        hidden(MarkedSweeps.class.getDeclaredMethods());
        Class<?>[] classes = MarkedSweeps.class.getDeclaredClasses();
        told(classes.length <= 11, "at most twelve classes");
        for (Class<?> inside : classes) {
            told(Modifier.isStatic(inside.getModifiers()), inside + " is not static");
            told(inside.getDeclaredFields().length <= 20, inside + " has too many fields");
            for (Method m : inside.getDeclaredMethods()) {
                told(!open.contains(m.getName()), m + " bears a public name");
                told(m.getParameterCount() <= 7, m + " takes too many");
            }
        }
    }

    private static void hidden(Member[] members) {
        for (Member m : members) {
            boolean open = Modifier.isPublic(m.getModifiers()) && m instanceof Method;
            told(open || Modifier.isPrivate(m.getModifiers()), m + " is to be seen");
        }
    }

    private static void barredWords() throws Exception {
        for (String row : Files.readAllLines(TEXT)) {
            String code = row.replaceAll("//.*|^\\s*/?\\*.*", "");
            for (String word : BARRED) {
                boolean there = Character.isLetter(word.charAt(0)) && word.matches("\\w+")
                    ? code.matches(".*\\b" + word + "\\b.*") : code.contains(word);
                told(!there, "'" + word + "' in: " + row);
            }
            boolean library = code.startsWith("import ")
                && !code.equals("import java.util.Arrays;");
            told(!library, "library: " + row);
            for (char c : row.toCharArray()) {
                told(c < 128, "sign " + (int) c + " in: " + row);
            }
        }
    }

    /** Room is taken by fields and in constructors alone, so that no call takes any. */
    private static void newOnlyAtFirst() throws Exception {
        for (String row : Files.readAllLines(TEXT)) {
            boolean field = row.matches(" +(private )?final .*= new .*");
            boolean constructor = row.matches(" +(sheets\\[s\\]|boards\\[i\\]) = new .*");
            told(!row.matches(".*\\bnew [A-Za-z].*[\\[(].*") || field || constructor,
                "made by a call: " + row);
        }
    }

    /** Methods stay under sixty lines. */
    private static void lengths() throws Exception {
        int begun = -1;
        int depth = 0;
        List<String> rows = Files.readAllLines(TEXT);
        for (int i = 0; i < rows.size(); i++) {
            String row = rows.get(i);
            told(row.length() <= 100, "a long row: " + row);
            if (row.matches("    (    )?[A-Za-z].*\\) \\{") && !row.contains("class")) {
                begun = i;
                depth = row.indexOf(row.trim());
            }
            if (begun >= 0 && row.equals(" ".repeat(depth) + "}")) {
                told(i - begun < 60, "a long method: " + rows.get(begun));
                begun = -1;
            }
        }
    }
}
