import java.io.IOException;
import java.lang.reflect.Constructor;
import java.lang.reflect.Field;
import java.lang.reflect.Member;
import java.lang.reflect.Method;
import java.lang.reflect.Modifier;
import java.nio.file.Files;
import java.nio.file.Path;
import java.util.ArrayList;
import java.util.List;
import java.util.Set;
import java.util.TreeSet;
import java.util.regex.Matcher;
import java.util.regex.Pattern;

/** What of LANGUAGE.md can be told from the source and the classes; run it from the project's root. */
public final class LanguageTest {
    private static final Check CHECK = new Check();
    private static final Set<String> FACE = Set.of("feed", "network", "fault", "count", "link", "pool", "tunnel", "way", "best",
            "pushes", "setUp", "tearDown", "move", "resize", "fail", "mend", "undo", "planned", "order", "toBreak", "widest", "apart",
            "cuts", "flow", "distance", "room", "saved", "see", "forget", "other", "luck", "years", "image", "restore");

    private LanguageTest() {
    }

    /** Rule 1: the face and no more; no other method bears one of its names. */
    private static void face() {
        Set<String> shown = new TreeSet<>();
        for (Method m : TunnelPlan.class.getDeclaredMethods()) {
            if (!Modifier.isPrivate(m.getModifiers())) {
                CHECK.yes(m + " is public", Modifier.isPublic(m.getModifiers()));
                shown.add(m.getName());
            } else {
                CHECK.no(m + " bears a name of the face", FACE.contains(m.getName()));
            }
        }
        CHECK.yes("the face is " + shown, shown.equals(new TreeSet<>(FACE)));
        List<Member> members = new ArrayList<>();
        members.addAll(List.of(TunnelPlan.class.getDeclaredFields()));
        for (Member m : members) {
            CHECK.same(m + " is private but for NONE", Modifier.isPrivate(m.getModifiers()) ? 0 : 1, m.getName().equals("NONE") ? 1 : 0);
        }
        Constructor<?>[] constructors = TunnelPlan.class.getDeclaredConstructors();
        CHECK.same("constructors", constructors.length, 1);
        CHECK.yes("the class is final", Modifier.isFinal(TunnelPlan.class.getModifiers()));
    }

    /** Rules 1, 5, 11: the classes inside. */
    private static void inside() {
        Class<?>[] classes = TunnelPlan.class.getDeclaredClasses();
        CHECK.yes("at most twelve classes", classes.length <= 12);
        for (Class<?> c : classes) {
            CHECK.yes(c + " is static", Modifier.isStatic(c.getModifiers()));
            for (Method m : c.getDeclaredMethods()) {
                CHECK.no(m + " bears a name of the face", FACE.contains(m.getName()));
                CHECK.yes(m + " has seven parameters at most", m.getParameterCount() <= 7);
            }
            int fields = 0;
            for (Field f : c.getDeclaredFields()) {
                boolean fixed = Modifier.isStatic(f.getModifiers());
                fields += fixed ? 0 : 1;
                CHECK.yes(f + " is final if it is static", !fixed || Modifier.isFinal(f.getModifiers()));
            }
            CHECK.yes(c + " has some twenty fields at most", fields <= 20);
        }
    }

    /** Rules 2, 3, 4, 6, 13: words that may not stand there. */
    private static void words(String code) {
        String[] forbidden = {"->", "::", "\\btry\\b", "\\bcatch\\b", "\\bfinally\\b", "\\bsynchronized\\b", "\\bassert\\b", "\\bdouble\\b",
            "\\bfloat\\b", "\\bvar\\b", "\\byield\\b", "Exact\\b", "\\bSystem\\.(?!arraycopy)", "\\bString\\.", "\\bObjects?\\b", "\\bThread\\b",
            "\\bRandom\\b", "\\bgetMessage\\b", "\\bhashCode\\b", "\\btoString\\b", "\\bpackage\\b", "\\bstatic \\{", "\\[\\]\\[\\]", "%[^ ]"};
        for (String word : forbidden) {
            Matcher m = Pattern.compile(word).matcher(code);
            CHECK.no(word + " stands there", m.find());
        }
        Matcher imports = Pattern.compile("import ([^;]*);").matcher(code);
        while (imports.find()) {
            CHECK.yes("import " + imports.group(1), imports.group(1).equals("java.util.NoSuchElementException"));
        }
        Matcher made = Pattern.compile("new ([A-Z]\\w*Exception)").matcher(code);
        while (made.find()) {
            CHECK.yes("throws " + made.group(1), Set.of("NoSuchElementException", "IllegalArgumentException").contains(made.group(1)));
        }
    }

    /** Rule 11: methods stay short. */
    private static void lengths(List<String> lines) {
        int from = -1;
        String name = "";
        String indent = "";
        for (int i = 0; i < lines.size(); i++) {
            String line = lines.get(i);
            Matcher head = Pattern.compile("^(    |        )(public|private)[^=;]*\\(.*\\{$").matcher(line);
            if (head.find()) {
                from = i;
                name = line.trim();
                indent = head.group(1);
            }
            if (from >= 0 && line.equals(indent + "}")) {
                CHECK.yes(name + " has some sixty lines at most", i - from + 1 <= 60);
                from = -1;
            }
        }
    }

    public static void main(String[] args) throws IOException {
        List<String> lines = Files.readAllLines(Path.of("src/main/java/TunnelPlan.java"));
        StringBuilder code = new StringBuilder();
        for (String line : lines) {
            String bare = line.trim();
            if (!bare.startsWith("//") && !bare.startsWith("*") && !bare.startsWith("/*")) {
                code.append(line).append('\n');
            }
        }
        face();
        inside();
        words(code.toString());
        lengths(lines);
        CHECK.end();
    }
}
