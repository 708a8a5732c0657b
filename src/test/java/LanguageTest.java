import java.lang.reflect.Member;
import java.lang.reflect.Modifier;
import java.nio.file.Files;
import java.nio.file.Path;
import java.util.HashSet;
import java.util.List;
import java.util.Set;
import java.util.regex.Matcher;
import java.util.regex.Pattern;

/** What of LANGUAGE.md a reader of the source and of the class can see. */
final class LanguageTest {
    private static int wrong = 0;

    static void due(boolean so, String what) {
        if (!so) {
            wrong++;
            System.out.println("not so: " + what);
        }
    }

    static void words(String source) {
        String bare = source.replaceAll("(?s)/\\*.*?\\*/", "").replaceAll("//[^\n]*", "");
        List<String> none = List.of("\\bthrow\\b", "\\bthrows\\b", "\\btry\\b", "\\bcatch\\b", "\\bimport\\b",
            "\\bsynchronized\\b", "\\bassert\\b", "->", "::", "\\bvar\\b", "Exact\\b", "\\bstatic\\s*\\{",
            "\\bInteger\\.[A-Z]", "\\bLong\\.[A-Z]", "\\bprotected\\b");
        for (String word : none) {
            Matcher m = Pattern.compile(word).matcher(bare);
            due(!m.find(), "without " + word);
        }
        due(source.chars().allMatch(c -> c < 128), "plain signs alone");
    }

    static void face() {
        Set<String> names = new HashSet<>();
        int methods = 0;
        for (Member m : SolidsUnfolded.class.getDeclaredMethods()) {
            if (Modifier.isPublic(m.getModifiers())) {
                methods++;
                names.add(m.getName());
            }
        }
        due(methods == 35 && names.size() == 35, "35 public methods");
        due(Modifier.isFinal(SolidsUnfolded.class.getModifiers()), "final");
        due(SolidsUnfolded.class.getDeclaredClasses().length <= 11, "twelve classes");
        hidden(SolidsUnfolded.class, names);
        for (Class<?> inside : SolidsUnfolded.class.getDeclaredClasses()) {
            int kind = inside.getModifiers();
            due(Modifier.isStatic(kind) && Modifier.isPrivate(kind), inside + " private");
            due(inside.getDeclaredFields().length <= 20, inside + " twenty fields");
            for (Member m : inside.getDeclaredMethods()) {
                due(!names.contains(m.getName()), m + " has a name of its own");
            }
        }
    }

    static void hidden(Class<?> type, Set<String> names) {
        for (Member m : type.getDeclaredMethods()) {
            boolean open = Modifier.isPublic(m.getModifiers());
            due(open || Modifier.isPrivate(m.getModifiers()) || m.isSynthetic(), m + " private");
            due(open || !names.contains(m.getName()), m + " has a name of its own");
        }
        for (Member m : type.getDeclaredFields()) {
            due(Modifier.isPrivate(m.getModifiers()) || m.getName().equals("NONE"), m + " private");
        }
    }

    /** Rows are made with the object and used again: no call makes any (the ROOM of rule 12). */
    static void nothingMade(String source) {
        for (String line : source.lines().toList()) {
            boolean field = line.contains(" final ") || line.contains("private int[] text = new int[0];");
            boolean inConstructor = line.contains("shelves[i] = new Shelf();")
                || line.contains("ring[i] = new Joints();");
            due(!line.matches(".*\\bnew\\b.*") || line.contains("//") || field || inConstructor, "made once: " + line);
            due(!line.contains(".clone(") && !line.contains("Arrays.copyOf"), "no copy: " + line);
        }
    }

    static void lengths(String source) {
        String begin = "(?m)^( {4}| {8})(?!for |if |while |switch |\\})[^ \n][^\n]*\\) \\{\n";
        Pattern method = Pattern.compile(begin + "(?s:.*?)^\\1\\}");
        Matcher m = method.matcher(source);
        int methods = 0;
        while (m.find()) {
            methods++;
            long lines = m.group().lines().count();
            due(lines <= 60, "a short method: " + m.group().lines().findFirst().get());
        }
        due(methods > 100, "methods are found");
        due(source.lines().allMatch(line -> line.length() <= 120), "short lines");
    }

    public static void main(String[] args) throws Exception {
        String source = Files.readString(Path.of("src/main/java/SolidsUnfolded.java"));
        words(source);
        face();
        nothingMade(source);
        lengths(source);
        System.out.println(wrong == 0 ? "the language is kept" : wrong + " rules are not kept");
        if (wrong != 0) {
            System.exit(1);
        }
    }
}
