import java.io.IOException;
import java.lang.reflect.Constructor;
import java.lang.reflect.Field;
import java.lang.reflect.Method;
import java.lang.reflect.Modifier;
import java.nio.charset.StandardCharsets;
import java.nio.file.Files;
import java.nio.file.Path;
import java.util.ArrayList;
import java.util.List;
import java.util.Set;
import java.util.TreeSet;

/** The class has the document's face and no more, and keeps those rules of LANGUAGE.md that a text or mirror shows. */
public final class FaceTest {
    private static final String FACE = "boolean canPlay(int) boolean fits(int,int) boolean isBlocked() boolean isSound() "
            + "boolean isVoid(int,int) boolean rule(char,boolean) double chance(int,int,int) double meanPips() "
            + "float laidShare() int begin(int,int,int) int bestBone() int bestEnd() int bone(int,int) int close() "
            + "int deal(int) int draw() int endAt(int) int ends() int found() int give(int,int) int half(int,boolean) "
            + "int handAt(int,int) int inHand(int) int laid() int laidAt(int) int pass() int pips(int) int play(int,int) "
            + "int points(int) int rings() int rounds() int rows() int solve() int sum() "
            + "int trick(int,int,int,int,int) int turn() int type(int) int winner() int wipe() int yard() "
            + "long checksum() long deals(int)";
    private static final String[] BARRED = {"->", "::", "finally", "synchronized", "assert ", "getMessage", "System.",
        "Exact(", "while (true)", "for (;;)", "Random", "Thread", "import static", "StringBuffer", "HashMap", "Object "};
    private static final String EXCEPTION =
            "(IllegalState|IllegalArgument|IndexOutOfBounds|Arithmetic|UnsupportedOperation|NoSuchElement|Runtime)Exception";

    public static void main(String[] args) throws IOException {
        Class<Bonehall> face = Bonehall.class;
        Check.part("rule 1");
        Check.due("public and final", true,
                Modifier.isPublic(face.getModifiers()) && Modifier.isFinal(face.getModifiers()));
        Set<String> open = new TreeSet<>();
        Set<String> names = new TreeSet<>();
        for (Method method : face.getDeclaredMethods()) {
            if (!Modifier.isPrivate(method.getModifiers()) && !method.isSynthetic()) {
                open.add(signature(method));
                names.add(method.getName());
                Check.due(method + " is public and no more", true,
                        Modifier.isPublic(method.getModifiers()) && !Modifier.isStatic(method.getModifiers()));
            }
        }
        Check.due("the methods", FACE, String.join(" ", open));
        for (Constructor<?> made : face.getDeclaredConstructors()) {
            Check.due("the constructor", "public Bonehall()", made.toString());
        }
        for (Method method : face.getDeclaredMethods()) {
            Check.due("private name of " + method, false,
                    Modifier.isPrivate(method.getModifiers()) && names.contains(method.getName()));
        }
        List<Class<?>> all = new ArrayList<>(List.of(face.getDeclaredClasses()));
        Check.due("some twelve classes", true, all.size() <= 14);
        for (Class<?> inside : all) {
            Check.due(inside + " is not open", false,
                    Modifier.isPublic(inside.getModifiers()) || Modifier.isProtected(inside.getModifiers()));
        }
        all.add(face);
        for (Class<?> one : all) {
            lookAt(one, one == face);
        }
        readText();
        Check.end("FaceTest");
    }

    private static String signature(Method method) {
        List<String> types = new ArrayList<>();
        for (Class<?> type : method.getParameterTypes()) {
            types.add(type.getSimpleName());
        }
        return method.getReturnType().getSimpleName() + " " + method.getName() + "(" + String.join(",", types) + ")";
    }

    private static void lookAt(Class<?> one, boolean isFace) {
        Check.part("rules 1, 5 and 11 in " + one);
        int fields = 0;
        for (Field field : one.getDeclaredFields()) {
            boolean isStatic = Modifier.isStatic(field.getModifiers());
            Check.due(field + " static means final", true, !isStatic || Modifier.isFinal(field.getModifiers()));
            Check.due(field + " private", true, !isFace || Modifier.isPrivate(field.getModifiers()));
            fields += isStatic ? 0 : 1;
        }
        Check.due("some twenty fields", true, fields <= 24);
        for (Method method : one.getDeclaredMethods()) {
            Check.due(method + " has seven parameters at most", true, method.getParameterCount() <= 7);
        }
    }

    private static void readText() throws IOException {
        Check.part("the text");
        String text = Files.readString(Path.of("src/main/java/Bonehall.java"), StandardCharsets.US_ASCII);
        for (String word : BARRED) {
            Check.due("'" + word + "' stands in it", false, text.replace("System.arraycopy", "").contains(word));
        }
        Check.due("a package line", false, text.startsWith("package") || text.contains("\npackage"));
        int lines = 0;
        for (String line : text.split("\n")) {
            lines = line.matches(" {4}}.*| {8}}([^ ].*)?") ? 0 : lines + 1;
            Check.due("a method is short: " + line, true, lines <= 75);
            if (line.contains("throw ")) {
                Check.due("a throw by rule 6: " + line, true,
                        line.matches(" +throw new " + EXCEPTION + "\\((\"[ -~]+\")?\\);"));
            }
            if (line.contains("catch ")) {
                Check.due("a catch by rule 6: " + line, true,
                        line.matches(".* catch \\(" + EXCEPTION + "( \\| " + EXCEPTION + ")* \\w+\\) \\{"));
            }
            if (line.startsWith("import ")) {
                Check.due("an import: " + line, true,
                        line.matches("import java\\.util\\.(Arrays|ArrayList|List|Iterator|NoSuchElementException);"));
            }
        }
    }
}
