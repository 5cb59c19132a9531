import java.io.IOException;
import java.lang.reflect.Field;
import java.lang.reflect.Method;
import java.lang.reflect.Modifier;
import java.nio.charset.StandardCharsets;
import java.nio.file.Files;
import java.nio.file.Path;
import java.util.ArrayList;
import java.util.List;
import java.util.Set;
import java.util.TreeSet;
import java.util.regex.Matcher;
import java.util.regex.Pattern;

/** The rules of LANGUAGE.md that can be seen from the source and from the compiled class; run from the top folder. */
public final class FormTest {
    private static final Due DUE = new Due("FormTest");

    public static void main(String[] args) throws IOException {
        String source = Files.readString(Path.of("src/main/java/SandPlates.java"), StandardCharsets.UTF_8);
        Set<String> face = face(Files.readString(Path.of("../shared/DOC.md"), StandardCharsets.UTF_8));
        publicFace(face);
        classes(face);
        words(source);
        lengths(source);
        recursion(bare(source));
        DUE.end();
    }

    private static Set<String> face(String document) {
        Set<String> face = new TreeSet<>();
        Matcher m = Pattern.compile("    public (int|boolean) (\\w+)\\(([^)]*)\\);").matcher(document);
        while (m.find()) {
            face.add(m.group(1) + " " + m.group(2) + "(" + m.group(3).replaceAll(" \\w+(,|$)", "$1").replace(" ", "") + ")");
        }
        DUE.is("methods in the document", face.size(), 54);
        return face;
    }

    private static void publicFace(Set<String> face) {
        Set<String> built = new TreeSet<>();
        for (Method m : SandPlates.class.getDeclaredMethods()) {
            if (!Modifier.isPrivate(m.getModifiers())) {
                List<String> types = new ArrayList<>();
                for (Class<?> type : m.getParameterTypes()) {
                    types.add(type.getName());
                }
                built.add(m.getReturnType().getName() + " " + m.getName() + "(" + String.join(",", types) + ")");
                DUE.is(m.getName() + " is public", Modifier.isPublic(m.getModifiers()), true);
            }
        }
        DUE.is("the face " + built + " is " + face, built.equals(face), true);
        DUE.is("public constructors", SandPlates.class.getConstructors().length, 1);
        DUE.is("constructors", SandPlates.class.getDeclaredConstructors().length, 1);
        for (Field f : SandPlates.class.getDeclaredFields()) {
            DUE.is("field " + f.getName(), Modifier.isPrivate(f.getModifiers()) || f.getName().equals("NONE"), true);
        }
        DUE.is("public class", Modifier.isPublic(SandPlates.class.getModifiers()), true);
        DUE.is("final class", Modifier.isFinal(SandPlates.class.getModifiers()), true);
    }

    private static void classes(Set<String> face) {
        Set<String> names = new TreeSet<>();
        face.forEach(m -> names.add(m.replaceAll("^\\w+ (\\w+)\\(.*$", "$1")));
        List<Class<?>> all = new ArrayList<>(List.of(SandPlates.class.getDeclaredClasses()));
        for (Class<?> inner : all) {
            DUE.is(inner + " is static", Modifier.isStatic(inner.getModifiers()), true);
            DUE.is(inner + " is not public", Modifier.isPublic(inner.getModifiers()), false);
            for (Method m : inner.getDeclaredMethods()) {
                DUE.is(inner + "." + m.getName() + " bears a name of the face", names.contains(m.getName()), false);
            }
        }
        all.add(SandPlates.class);
        DUE.is("at most 12 classes", all.size() <= 12, true);
        for (Class<?> one : all) {
            int fields = 0;
            for (Field f : one.getDeclaredFields()) {
                boolean fixed = Modifier.isStatic(f.getModifiers());
                DUE.is(one + "." + f.getName() + " is final if static", !fixed || Modifier.isFinal(f.getModifiers()), true);
                fields += fixed ? 0 : 1;
            }
            DUE.is(one + " has at most 20 fields", fields <= 20, true);
            for (Method m : one.getDeclaredMethods()) {
                DUE.is(one + "." + m.getName() + " takes at most 7", m.getParameterCount() <= 7, true);
                boolean shadows = Modifier.isPrivate(m.getModifiers()) && names.contains(m.getName());
                DUE.is(one + "." + m.getName() + " is private and of the face", shadows, false);
            }
        }
    }

    private static String bare(String source) {
        return source.replaceAll("(?s)/\\*.*?\\*/", "").replaceAll("//[^\n]*", "")
            .replaceAll("\"[^\"\n]*\"", "\"\"").replaceAll("'.'", "' '");
    }

    private static void words(String source) {
        for (int i = 0; i < source.length(); i++) {
            if (source.charAt(i) > 126) {
                DUE.is("sign at " + i, source.charAt(i), ' ');
            }
        }
        String code = bare(source);
        for (String word : List.of("throw", "throws", "try", "catch", "finally", "synchronized", "assert", "package",
            "protected", "instanceof", "Object", "System.out", "Exact", "Random", "Thread", "Exception", "lambda",
            "hashCode", "float", "double")) {
            DUE.is("the word " + word, Pattern.compile("\\b" + Pattern.quote(word) + "\\b").matcher(code).find(), false);
        }
        DUE.is("an arrow", code.contains("->"), false);
        DUE.is("a method reference", code.contains("::"), false);
        DUE.is("texts in an array", code.contains("String["), false);
        DUE.is("texts joined by +", Pattern.compile("\"\"\\s*\\+|\\+\\s*\"\"").matcher(code).find(), false);
        Matcher m = Pattern.compile("import ([\\w.]+);").matcher(code);
        while (m.find()) {
            DUE.is("import " + m.group(1), m.group(1).matches("java\\.util\\.(Arrays|ArrayList|List)"), true);
        }
        m = Pattern.compile("\\b(System|Arrays|Math|Integer|Long)\\.(\\w+)").matcher(code);
        Set<String> allowed = Set.of("System.arraycopy", "Arrays.fill", "Arrays.copyOf", "Arrays.copyOfRange",
            "Math.max", "Math.min", "Math.abs", "Integer.bitCount", "Integer.numberOfTrailingZeros");
        while (m.find()) {
            DUE.is(m.group(), allowed.contains(m.group()), true);
        }
    }

    private static void lengths(String source) {
        String[] lines = source.split("\n");
        int start = -1;
        String indent = "";
        for (int i = 0; i < lines.length; i++) {
            DUE.is("line " + (i + 1) + " is at most 120 wide", lines[i].length() <= 120, true);
            Matcher m = Pattern.compile("^( {4}| {8})(?!private static final class|static final class)[\\w\\[\\] ]+\\([^;]*\\) \\{$")
                .matcher(lines[i]);
            if (m.find()) {
                start = i;
                indent = m.group(1);
            }
            if (start >= 0 && lines[i].equals(indent + "}")) {
                DUE.is("the method in line " + (start + 1) + " is at most 60 long", i - start < 60, true);
                start = -1;
            }
        }
    }

    /** A method that calls itself is private and static; others go down by methods that call one another. */
    private static void recursion(String code) {
        Matcher m = Pattern.compile("(?ms)^( {4}| {8})(\\w[\\w\\[\\] ]*) (\\w+)\\([^;{]*\\) \\{$(.*?)^\\1\\}$").matcher(code);
        int methods = 0;
        while (m.find()) {
            methods++;
            boolean callsItself = Pattern.compile("(?<![.\\w])" + m.group(3) + "\\(").matcher(m.group(4)).find();
            DUE.is(m.group(3) + " calls itself", callsItself && !m.group(2).startsWith("private static "), false);
        }
        DUE.is("more methods than the face: " + methods, methods > 100, true);
    }
}
