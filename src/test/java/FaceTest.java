import java.io.IOException;
import java.lang.reflect.Constructor;
import java.lang.reflect.Field;
import java.lang.reflect.Method;
import java.lang.reflect.Modifier;
import java.nio.charset.StandardCharsets;
import java.nio.file.Files;
import java.nio.file.Path;
import java.util.ArrayList;
import java.util.Collections;
import java.util.List;
import java.util.regex.Pattern;

/** The document's face, no more and no less, and the rules of LANGUAGE.md that a look at the text can tell. */
public final class FaceTest {
    private static final String[] FACE = {
        "as int 2", "ask int 2", "bit int 5", "call int 4", "clear int 1", "copy int 5", "count int 1", "cross int 3",
        "demand int 5", "die int 2", "drop int 1", "end int 2", "free int 4", "goes int 4", "is int 2", "kind int 1",
        "line int 3", "mend int 2", "net int 4", "set int 3", "sheet int 3", "shut long 2", "status int 0",
        "trace int 1"};
    private static final String[] BARRED = {"throw", "throws", "try", "catch", "synchronized", "assert", "Exact", "->",
        "::", "public static void main", "package ", "Exception", "Random", "System.out", "currentTimeMillis"};

    public static void main(String[] args) throws IOException {
        constants();
        methods();
        nothingElse();
        text();
        Due.finish();
    }

    private static void constants() {
        Due.due("NONE", StageSwitch.NONE, -1000000);
        Due.due("BAD", StageSwitch.BAD, -1000001);
        Due.due("STATE", StageSwitch.STATE, -1000002);
    }

    private static void methods() {
        List<String> found = new ArrayList<>();
        for (Method method : StageSwitch.class.getDeclaredMethods()) {
            if (Modifier.isPublic(method.getModifiers())) {
                found.add(method.getName() + " " + method.getReturnType() + " " + method.getParameterCount());
                for (Class<?> type : method.getParameterTypes()) {
                    Due.holds(method.getName() + " takes ints", type == int.class);
                }
            }
        }
        Collections.sort(found);
        Due.holds("the methods: " + found, found.equals(List.of(FACE)));
    }

    private static void nothingElse() {
        int face = Modifier.PUBLIC | Modifier.FINAL;
        Due.due("public and final", StageSwitch.class.getModifiers() & ~0x20, face);
        Constructor<?>[] made = StageSwitch.class.getDeclaredConstructors();
        Due.holds("one constructor", made.length == 1 && Modifier.isPublic(made[0].getModifiers())
            && made[0].getParameterCount() == 0);
        List<String> names = new ArrayList<>();
        for (String method : FACE) {
            names.add(method.substring(0, method.indexOf(' ')));
        }
        for (Method method : StageSwitch.class.getDeclaredMethods()) {
            boolean hidden = Modifier.isPrivate(method.getModifiers());
            Due.holds("no other than public or private: " + method, hidden || Modifier.isPublic(method.getModifiers()));
            Due.holds("a private name of its own: " + method, !hidden || !names.contains(method.getName()));
        }
        for (Field field : StageSwitch.class.getDeclaredFields()) {
            boolean told = List.of("NONE", "BAD", "STATE").contains(field.getName());
            Due.holds("private: " + field, told || Modifier.isPrivate(field.getModifiers()));
        }
        for (Class<?> inside : StageSwitch.class.getDeclaredClasses()) {
            Due.holds("static: " + inside, Modifier.isStatic(inside.getModifiers()));
            for (Method method : inside.getDeclaredMethods()) {
                Due.holds("a name of its own: " + method, !names.contains(method.getName()));
            }
        }
    }

    private static void text() throws IOException {
        byte[] bytes = Files.readAllBytes(Path.of("src/main/java/StageSwitch.java"));
        String text = new String(bytes, StandardCharsets.UTF_8);
        String code = Pattern.compile("/\\*.*?\\*/|//[^\n]*", Pattern.DOTALL).matcher(text).replaceAll("");
        for (String word : BARRED) {
            boolean plain = Character.isLetter(word.charAt(0)) && word.indexOf(' ') < 0 && word.indexOf('.') < 0
                && !word.equals("Exact") && !word.equals("Exception");
            String pattern = plain ? "\\b" + word + "\\b" : Pattern.quote(word);
            Due.holds("barred: " + word, !Pattern.compile(pattern).matcher(code).find());
        }
        for (String line : code.split("\n")) {
            Due.holds("imports: " + line, !line.startsWith("import") || line.equals("import java.util.Arrays;"));
        }
        for (byte sign : bytes) {
            if (sign < 0) {
                Due.holds("signs 1 to 127 alone", false);
            }
        }
    }
}
