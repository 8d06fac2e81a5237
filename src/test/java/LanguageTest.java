import java.io.IOException;
import java.lang.reflect.Constructor;
import java.lang.reflect.Field;
import java.lang.reflect.Method;
import java.lang.reflect.Modifier;
import java.nio.file.Files;
import java.nio.file.Path;
import java.util.ArrayList;
import java.util.Arrays;
import java.util.List;
import java.util.Set;
import java.util.TreeSet;
import java.util.regex.Matcher;
import java.util.regex.Pattern;

/** The rules of LANGUAGE.md that can be seen from outside: the face, the words of the source, the methods' sizes. */
public final class LanguageTest {
    private static final Path SOURCE = Path.of("src/main/java/TreeFlows.java");
    private static final int MOST_METHOD_LINES = 60;
    private static final String[] FORBIDDEN = {"synchronized", "assert", "finally", "try", "catch", "->", "::", "var ",
        "instanceof", "System.out", "Exact(", "String.format", "hashCode", "toString", "import java.util.*", "Random",
        "currentTimeMillis", "nanoTime", "Thread", "double", "float", "static {"};

    // Of what rule 4 lists the part that the class needs; more of it may be added here.
    private static final Set<String> LIBRARY = Set.of("Math.max", "Math.min", "Math.abs", "Integer.bitCount",
        "Integer.MIN_VALUE", "Integer.MAX_VALUE", "System.arraycopy");
    private static final Pattern LIBRARY_USE =
        Pattern.compile("\\b(Math|Integer|Long|System|Arrays|Character|String|StringBuilder|List|java)\\.\\w+");

    private static int wrong;

    public static void main(String[] args) throws IOException {
        checkFace();
        checkNames();
        List<String> lines = Files.readAllLines(SOURCE);
        checkWords(lines);
        checkLibrary(lines);
        checkMethodSizes(lines);
        checkMaking(lines);
        System.out.println(wrong == 0 ? "the source keeps to the rules looked at" : wrong + " rules broken");
        if (wrong != 0) {
            System.exit(1);
        }
    }

    private static void complain(String what) {
        wrong++;
        System.out.println(what);
    }

    private static Set<String> faceOfDocument() throws IOException {
        String doc = Files.readString(Path.of("../shared/DOC.md"));
        int from = doc.indexOf("public final class TreeFlows {");
        int to = doc.indexOf("```", from);
        Set<String> face = new TreeSet<>();
        for (String line : doc.substring(from, to).split("\n")) {
            String told = line.trim();
            if (told.startsWith("public ") && told.endsWith(";") && told.contains("(")) {
                String head = told.substring("public ".length(), told.indexOf(')') + 1);
                face.add(head.replaceAll("(\\w+) \\w+([,)])", "$1$2").replace(", ", ","));
            }
        }
        return face;
    }

    private static String types(Class<?>[] types) {
        List<String> names = new ArrayList<>();
        for (Class<?> type : types) {
            names.add(type.getSimpleName());
        }
        return "(" + String.join(",", names) + ")";
    }

    private static void checkFace() throws IOException {
        Set<String> open = new TreeSet<>();
        for (Method m : TreeFlows.class.getDeclaredMethods()) {
            if (!Modifier.isPrivate(m.getModifiers())) {
                open.add(m.getReturnType().getSimpleName() + " " + m.getName() + types(m.getParameterTypes()));
            }
        }
        for (Constructor<?> c : TreeFlows.class.getDeclaredConstructors()) {
            open.add("TreeFlows" + types(c.getParameterTypes()));
        }
        Set<String> told = faceOfDocument();
        if (told.size() != 35 || !open.equals(told)) {
            complain("the face is " + open + ", the document's is " + told);
        }
        for (Field f : TreeFlows.class.getDeclaredFields()) {
            if (!Modifier.isPrivate(f.getModifiers()) && !f.getName().equals("NONE")) {
                complain("a field that is not private: " + f.getName());
            }
        }
    }

    private static void checkNames() {
        Set<String> face = new TreeSet<>();
        for (Method m : TreeFlows.class.getMethods()) {
            if (m.getDeclaringClass() == TreeFlows.class) {
                face.add(m.getName());
            }
        }
        List<Class<?>> all = new ArrayList<>(Arrays.asList(TreeFlows.class.getDeclaredClasses()));
        all.add(TreeFlows.class);
        if (all.size() > 12) {
            complain("more than 12 classes");
        }
        for (Class<?> c : all) {
            if (c != TreeFlows.class && !Modifier.isStatic(c.getModifiers())) {
                complain("a class inside that is not static: " + c);
            }
            int fields = 0;
            for (Field f : c.getDeclaredFields()) {
                fields += Modifier.isStatic(f.getModifiers()) ? 0 : 1;
                if (Modifier.isStatic(f.getModifiers()) && !Modifier.isFinal(f.getModifiers())) {
                    complain("a static field that is not final: " + f);
                }
            }
            if (fields > 20) {
                complain("more than 20 fields: " + c);
            }
            for (Method m : c.getDeclaredMethods()) {
                if (m.getParameterCount() > 7) {
                    complain("more than seven parameters: " + m);
                }
                if (!Modifier.isPublic(m.getModifiers()) && face.contains(m.getName())) {
                    complain("a method with the name of a public one: " + m);
                }
            }
        }
    }

    private static void checkWords(List<String> lines) {
        for (int i = 0; i < lines.size(); i++) {
            String code = lines.get(i).replaceAll("//.*", "").replaceAll("/\\*\\*.*", "");
            for (String word : FORBIDDEN) {
                String form = Character.isLetter(word.charAt(0)) ? "(?s).*\\b\\Q" + word + "\\E.*" : null;
                boolean found = form == null ? code.contains(word) : code.matches(form);
                if (found) {
                    complain("line " + (i + 1) + " holds " + word + ": " + code.trim());
                }
            }
        }
    }

    private static void checkLibrary(List<String> lines) {
        for (int i = 0; i < lines.size(); i++) {
            String line = lines.get(i);
            boolean imports = line.startsWith("import ");
            if (imports && !line.equals("import java.util.NoSuchElementException;")) {
                complain("line " + (i + 1) + " imports what rule 4 does not list: " + line);
            }
            Matcher use = LIBRARY_USE.matcher(line);
            while (!imports && use.find()) {
                if (!LIBRARY.contains(use.group())) {
                    complain("line " + (i + 1) + " uses what rule 4 does not list: " + use.group());
                }
            }
        }
    }

    private static void checkMethodSizes(List<String> lines) {
        int start = 0;
        for (int i = 0; i < lines.size(); i++) {
            String line = lines.get(i);
            if (line.matches(" {4,8}[A-Za-z].*\\) (throws \\w+ )?\\{") && !line.trim().startsWith("switch")) {
                start = i;
            }
            if (line.matches(" {4}( {4})?}") && i - start + 1 > MOST_METHOD_LINES && start > 0
                    && lines.get(start).indexOf(lines.get(start).trim()) == line.indexOf('}')) {
                complain("a method of " + (i - start + 1) + " lines: " + lines.get(start).trim());
            }
        }
    }

    /** Objects are made in fields, in the constructor, and where an exception is thrown; nowhere else. */
    private static void checkMaking(List<String> lines) {
        boolean inConstructor = false;
        for (int i = 0; i < lines.size(); i++) {
            String line = lines.get(i).replaceAll("//.*", "").replaceAll("/\\*\\*.*", "");
            inConstructor |= line.startsWith("    public TreeFlows() {");
            inConstructor &= !line.equals("    }");
            boolean field = line.matches(" +(private )?final .* = new .*;");
            boolean thrown = line.trim().startsWith("throw new ");
            if (line.contains("new ") && !field && !thrown && !inConstructor) {
                complain("line " + (i + 1) + " makes an object: " + line.trim());
            }
        }
    }
}
