import java.io.IOException;
import java.lang.reflect.Field;
import java.lang.reflect.Method;
import java.lang.reflect.Modifier;
import java.nio.file.Files;
import java.nio.file.Path;
import java.util.Set;
import java.util.TreeSet;
import java.util.regex.Matcher;
import java.util.regex.Pattern;

/** Rules of LANGUAGE.md that a look at the text and at the compiled class can tell. */
public final class LanguageTest {
    private static final Checks CHECKS = new Checks();
    private static final String[] BANNED = {
        "\\bthrow\\b", "\\btry\\b", "\\bcatch\\b", "\\bsynchronized\\b", "\\bassert\\b", "->", "::", "Exact\\b",
        "\\bdouble\\b", "\\bfloat\\b", "\\bequals\\b", "\\bhashCode\\b", "\\btoString\\b", "\\bprotected\\b",
        "\\bstatic \\{", "\\bpackage\\b", "\\bSystem\\.(?!arraycopy)", "\\bRandom\\b", "\\bThread\\b", "\\bvar\\b"};
    private static final String[] FACE = {
        "slot", "leaf", "join", "move", "feed", "tangle", "moves", "term", "dance", "least", "link", "crossing",
        "linked", "gauss", "colours", "name", "alike", "listed", "enter", "book", "ranked", "entered", "sheet", "put",
        "of", "shift", "terms", "value", "judge", "seed", "loose", "image", "restore", "count", "told"};

    private LanguageTest() {
    }

    private static String bare(String source) {
        return source.replaceAll("(?s)/\\*.*?\\*/", "").replaceAll("//[^\n]*", "").replaceAll("\"[^\"\n]*\"", "\"\"");
    }

    private static void text() throws IOException {
        String source = Files.readString(Path.of("src/main/java/StrandTangles.java"));
        String code = bare(source);
        for (String banned : BANNED) {
            CHECKS.isTrue("there is no " + banned, !Pattern.compile(banned).matcher(code).find());
        }
        for (int i = 0; i < source.length(); i++) {
            if (source.charAt(i) > 126) {
                CHECKS.isTrue("all signs are plain at " + i, false);
            }
        }
        Matcher imports = Pattern.compile("import ([\\w.]+);").matcher(code);
        while (imports.find()) {
            CHECKS.isTrue("import " + imports.group(1), imports.group(1).equals("java.util.Arrays"));
        }
        Matcher fills = Pattern.compile("Arrays\\.(\\w+)").matcher(code);
        while (fills.find()) {
            CHECKS.isTrue("Arrays." + fills.group(1), Set.of("fill", "copyOf").contains(fills.group(1)));
        }
        methodLengths(code);
    }

    private static void methodLengths(String code) {
        String[] lines = code.split("\n");
        int begin = -1;
        String end = "";
        for (int i = 0; i < lines.length; i++) {
            Matcher m = Pattern.compile("^( {4}| {8})\\S.*\\)\\s*\\{$").matcher(lines[i]);
            if (m.find()) {
                begin = i;
                end = m.group(1) + "}";
            } else if (begin >= 0 && lines[i].equals(end)) {
                CHECKS.isTrue("short enough: " + lines[begin], i - begin < 60);
                begin = -1;
            }
        }
    }

    private static void face() {
        Set<String> found = new TreeSet<>();
        for (Method m : StrandTangles.class.getDeclaredMethods()) {
            if (Modifier.isPublic(m.getModifiers())) {
                CHECKS.isTrue(m.getName() + " stands once", found.add(m.getName()));
            } else {
                CHECKS.isTrue(m.getName() + " is private", Modifier.isPrivate(m.getModifiers()));
                CHECKS.isTrue(m.getName() + " has a name of its own", !Set.of(FACE).contains(m.getName()));
            }
        }
        CHECKS.isTrue("the face is whole", found.equals(new TreeSet<>(Set.of(FACE))));
        CHECKS.isTrue("final", Modifier.isFinal(StrandTangles.class.getModifiers()));
        fields(StrandTangles.class);
        Class<?>[] inner = StrandTangles.class.getDeclaredClasses();
        CHECKS.isTrue("at most some twelve classes", inner.length < 12);
        for (Class<?> c : inner) {
            CHECKS.isTrue(c + " is static", Modifier.isStatic(c.getModifiers()));
            for (Method m : c.getDeclaredMethods()) {
                CHECKS.isTrue(m + " has a name of its own", !Set.of(FACE).contains(m.getName()));
                CHECKS.isTrue(m + " has few parameters", m.getParameterCount() <= 7);
            }
            fields(c);
        }
        for (Field f : StrandTangles.class.getDeclaredFields()) {
            CHECKS.isTrue(f + " is private", Modifier.isPrivate(f.getModifiers()));
        }
    }

    /** Each line of the document's face, with its types, and each heading of the interface ahead of its calls. */
    private static void document() throws IOException {
        String text = Files.readString(Path.of("../shared/DOC.md"));
        String source = Files.readString(Path.of("src/main/java/StrandTangles.java"));
        Matcher lines = Pattern.compile("    public (int|long) (\\w+)\\(([^)]*)\\);").matcher(text);
        int found = 0;
        while (lines.find()) {
            found++;
            CHECKS.isTrue("the face has " + lines.group(), source.contains(lines.group().replace(";", " {")));
        }
        CHECKS.due("methods of the face", found, FACE.length);
        Matcher headings = Pattern.compile("Ahead of the calls (.*?) the interface says: (----.*?)\\.\n").matcher(text);
        int headed = 0;
        while (headings.find()) {
            int at = source.indexOf("// " + headings.group(2) + "\n");
            int next = source.indexOf("// ----", at + 1);
            Matcher calls = Pattern.compile("`(\\w+)`").matcher(headings.group(1));
            while (calls.find()) {
                int call = source.indexOf(" " + calls.group(1) + "(", at);
                CHECKS.isTrue(calls.group(1) + " stands behind " + headings.group(2), at >= 0 && call > at && call < next);
            }
            headed++;
        }
        CHECKS.due("headings of the interface", headed, 6);
    }

    private static void fields(Class<?> c) {
        int own = 0;
        for (Field f : c.getDeclaredFields()) {
            if (Modifier.isStatic(f.getModifiers())) {
                CHECKS.isTrue(f + " is a constant", Modifier.isFinal(f.getModifiers()));
            } else {
                own++;
            }
        }
        CHECKS.isTrue(c + " has at most some twenty fields", own <= 20);
    }

    public static void main(String[] args) throws IOException {
        text();
        face();
        document();
        CHECKS.end();
    }
}
