import java.io.IOException;
import java.lang.reflect.Constructor;
import java.lang.reflect.Field;
import java.lang.reflect.Method;
import java.lang.reflect.Modifier;
import java.nio.charset.StandardCharsets;
import java.nio.file.Files;
import java.nio.file.Path;
import java.util.ArrayList;
import java.util.Arrays;
import java.util.HashSet;
import java.util.List;
import java.util.Set;
import java.util.regex.Matcher;
import java.util.regex.Pattern;

/** The face is the document's and no more, and the source keeps to what LANGUAGE.md says of its words. */
public final class FaceTest {
    private static final String[] FACE = {
        "int feed(int,int,int,int,int)", "int back(int)", "int read()", "int place()", "int man(int,int)",
        "int motion(int,int)", "int argues(int,int,boolean)", "int mark(int,int,boolean)", "int sum(int,boolean)",
        "boolean speak(int,int,int)", "int praise(int)", "int reads(int,int)", "boolean swear(int,int)",
        "int session(int)", "boolean undo()", "int now(int,int)", "int likely(int,int,boolean)",
        "int change(int,int,int)", "int choose(int,int,int)", "int chosen(int,int,boolean)", "int mumble(int,int)",
        "int jury(int,int,int)", "int say(int,int)", "int fine(int,boolean)", "int ahead(int)",
        "int harsh(int,boolean)", "int praiseFor(int,int,int)", "int old(int,int)", "int year(int,int)",
        "int tell(int,int)", "int forget()", "int slipped(int,int)", "int thinks(int,int)", "boolean hold(int)",
        "boolean restore(int)", "int count(int)"};
    private static final String[] NO_WORDS = {"throw", "throws", "try", "catch", "finally", "synchronized", "assert",
        "import", "package", "protected", "volatile", "transient", "native", "strictfp", "var", "yield", "Object",
        "System.out", "Exception", "Error", "hashCode", "toString", "goto"};

    private FaceTest() {
    }

    public static void main(String[] args) throws IOException {
        face();
        classesInside();
        source();
        Check.end("FaceTest");
    }

    private static String told(Method m) {
        StringBuilder s = new StringBuilder(m.getReturnType().getSimpleName() + " " + m.getName() + "(");
        for (int i = 0; i < m.getParameterCount(); i++) {
            s.append(i > 0 ? "," : "").append(m.getParameterTypes()[i].getSimpleName());
        }
        return s.append(")").toString();
    }

    private static void face() {
        Class<?> c = WorseSenate.class;
        Check.due("public and final", Modifier.isPublic(c.getModifiers()) && Modifier.isFinal(c.getModifiers()), true);
        Set<String> due = new HashSet<>(Arrays.asList(FACE));
        Set<String> names = new HashSet<>();
        for (String f : FACE) {
            names.add(f.substring(f.indexOf(' ') + 1, f.indexOf('(')));
        }
        for (Method m : c.getDeclaredMethods()) {
            if (Modifier.isPrivate(m.getModifiers())) {
                Check.due("private " + m.getName() + " bears a public name", names.contains(m.getName()), false);
            } else {
                Check.due(told(m) + " is of the face", due.remove(told(m)), true);
                Check.due(told(m) + " is public alone", m.getModifiers(), Modifier.PUBLIC);
            }
        }
        Check.due("lacking: " + due, due.size(), 0);
        for (Field f : c.getDeclaredFields()) {
            boolean isNone = f.getName().equals("NONE");
            Check.due(f.getName() + " is private", Modifier.isPrivate(f.getModifiers()), !isNone);
            Check.due(f.getName() + " is static only if final",
                !Modifier.isStatic(f.getModifiers()) || Modifier.isFinal(f.getModifiers()), true);
        }
        Check.due("NONE", WorseSenate.NONE, -1);
        Constructor<?>[] made = c.getDeclaredConstructors();
        Check.due("one constructor", made.length == 1 && made[0].getParameterCount() == 0
            && Modifier.isPublic(made[0].getModifiers()), true);
    }

    private static void classesInside() {
        Class<?>[] inside = WorseSenate.class.getDeclaredClasses();
        Check.due("at most twelve classes", inside.length + 1 <= 12, true);
        Set<String> names = new HashSet<>();
        for (Method m : WorseSenate.class.getDeclaredMethods()) {
            if (Modifier.isPublic(m.getModifiers())) {
                names.add(m.getName());
            }
        }
        for (Class<?> c : inside) {
            int is = c.getModifiers();
            Check.due(c + " is static, not public", Modifier.isStatic(is) && !Modifier.isPublic(is)
                && !Modifier.isProtected(is), true);
            int fields = 0;
            for (Field f : c.getDeclaredFields()) {
                boolean isStatic = Modifier.isStatic(f.getModifiers());
                fields += isStatic ? 0 : 1;
                Check.due(f + " is static only if final", !isStatic || Modifier.isFinal(f.getModifiers()), true);
            }
            Check.due(c + " has at most twenty fields", fields <= 20, true);
            for (Method m : c.getDeclaredMethods()) {
                Check.due(m + " has at most seven parameters", m.getParameterCount() <= 7, true);
                Check.due(m + " bears a public name", names.contains(m.getName()), false);
            }
        }
    }

    private static void source() throws IOException {
        byte[] bytes = Files.readAllBytes(Path.of("src/main/java/WorseSenate.java"));
        for (byte b : bytes) {
            if (b != '\n' && (b < 32 || b > 126)) {
                Check.due("a byte of the source", b, ' ');
            }
        }
        String text = new String(bytes, StandardCharsets.ISO_8859_1);
        String code = text.replaceAll("(?s)/\\*.*?\\*/", "").replaceAll("//[^\n]*", "").replaceAll("\"[^\"\n]*\"", "#");
        for (String word : NO_WORDS) {
            Check.due("the source has " + word, Pattern.compile("\\b" + Pattern.quote(word) + "\\b").matcher(code).find(),
                false);
        }
        for (String sign : new String[] {"->", "::", "@", "# +", "+ #", "static {"}) {
            Check.due("the source has " + sign, code.contains(sign), false);
        }
        for (String call : callsOnOthers(code)) {
            Check.due("the library has " + call + " for it", LIBRARY.contains(call), true);
        }
        int lines = 0;
        for (String line : text.split("\n", -1)) {
            boolean opens = line.matches("    (    )?(public|private|static|int|void|long|boolean|[A-Z])[^;=]*\\(.*\\) \\{");
            lines = opens ? 0 : lines + 1;
            if (line.matches("    (    )?\\}")) {
                Check.due("a method of " + lines + " lines", lines <= 60, true);
            }
        }
    }

    private static final List<String> LIBRARY = Arrays.asList("WORDS.charAt", "WORDS.length", "SIGNS.indexOf", "Math.min",
        "Math.max", "Integer.bitCount", "Integer.numberOfTrailingZeros", "System.arraycopy");

    /** Calls on what begins with a capital and is none of its own classes. */
    private static List<String> callsOnOthers(String code) {
        List<String> calls = new ArrayList<>();
        Matcher m = Pattern.compile("\\b([A-Z]\\w*)\\.(\\w+)\\(").matcher(code);
        while (m.find()) {
            if (!code.contains("class " + m.group(1) + " ")) {
                calls.add(m.group(1) + "." + m.group(2));
            }
        }
        return calls;
    }
}
