import java.io.IOException;
import java.lang.reflect.Constructor;
import java.lang.reflect.Field;
import java.lang.reflect.Method;
import java.lang.reflect.Modifier;
import java.nio.file.Files;
import java.nio.file.Path;
import java.util.Arrays;
import java.util.List;
import java.util.Set;
import java.util.TreeSet;
import java.util.regex.Matcher;
import java.util.regex.Pattern;

/** The public face of the document, and those rules of LANGUAGE.md that can be seen from outside. */
public final class FaceTest {
    private static final Check CHECK = new Check();
    private static final Set<String> FACE = new TreeSet<>(List.of("int feed(int, int, int, int, int)", "int read(int)",
        "int fault(int)", "int truth()", "int turn()", "int move()", "int wins(int)", "int moves()", "boolean play(int)",
        "int undo()", "int fixed(int, int)", "int turned(int)", "int models()", "int write()", "int octet(int)", "int look(int)"));

    public static void main(String[] args) throws IOException {
        classIsPublicAndFinal();
        methods();
        fields();
        nestedClasses();
        source(Files.readString(Path.of(args[0])));
        CHECK.end();
    }

    private static void classIsPublicAndFinal() {
        int modifiers = ChoiceGame.class.getModifiers();
        CHECK.due("public and final", Modifier.isPublic(modifiers) && Modifier.isFinal(modifiers), true);
        Constructor<?>[] constructors = ChoiceGame.class.getDeclaredConstructors();
        CHECK.due("constructors", constructors.length, 1);
        CHECK.due("its parameters", constructors[0].getParameterCount(), 0);
        CHECK.due("it is public", Modifier.isPublic(constructors[0].getModifiers()), true);
    }

    private static void methods() {
        Set<String> seen = new TreeSet<>();
        Set<String> publicNames = new TreeSet<>();
        for (Method method : ChoiceGame.class.getDeclaredMethods()) {
            if (!Modifier.isPrivate(method.getModifiers())) {
                String parameters = Arrays.toString(method.getParameterTypes());
                seen.add(method.getReturnType() + " " + method.getName() + "(" + parameters.substring(1, parameters.length() - 1) + ")");
                publicNames.add(method.getName());
                CHECK.due(method.getName() + " is public alone", Modifier.toString(method.getModifiers()), "public");
            }
        }
        CHECK.due("the methods", seen.toString(), FACE.toString());
        privateNamesAreOthers(ChoiceGame.class, publicNames);
        for (Class<?> nested : ChoiceGame.class.getDeclaredClasses()) {
            privateNamesAreOthers(nested, publicNames);
        }
    }

    private static void privateNamesAreOthers(Class<?> of, Set<String> publicNames) {
        for (Method method : of.getDeclaredMethods()) {
            boolean taken = !Modifier.isPublic(method.getModifiers()) && publicNames.contains(method.getName());
            CHECK.due(of.getName() + "." + method.getName() + " bears a public name", taken, false);
            CHECK.due(of.getName() + "." + method.getName() + " takes at most seven", method.getParameterCount() <= 7, true);
        }
    }

    private static void fields() {
        for (Field field : ChoiceGame.class.getDeclaredFields()) {
            boolean none = field.getName().equals("NONE");
            CHECK.due(field.getName() + " is private", Modifier.isPrivate(field.getModifiers()), !none);
            staticIsFinal(field);
        }
    }

    private static void staticIsFinal(Field field) {
        int modifiers = field.getModifiers();
        CHECK.due(field + ": static is final", !Modifier.isStatic(modifiers) || Modifier.isFinal(modifiers), true);
    }

    private static void nestedClasses() {
        Class<?>[] nested = ChoiceGame.class.getDeclaredClasses();
        CHECK.due("at most twelve classes", nested.length + 1 <= 12, true);
        for (Class<?> inside : nested) {
            int modifiers = inside.getModifiers();
            CHECK.due(inside + " is static", Modifier.isStatic(modifiers), true);
            CHECK.due(inside + " is hidden", Modifier.isPublic(modifiers) || Modifier.isProtected(modifiers), false);
            Arrays.stream(inside.getDeclaredFields()).forEach(FaceTest::staticIsFinal);
        }
    }

    private static void source(String whole) {
        String code = whole.replaceAll("(?s)/\\*.*?\\*/", "").replaceAll("//[^\n]*", "").replaceAll("\"[^\"\n]*\"", "\"\"");
        for (String word : List.of("throw", "throws", "try", "catch", "synchronized", "assert", "import", "package", "native")) {
            Matcher matcher = Pattern.compile("\\b" + word + "\\b").matcher(code);
            CHECK.due("the word " + word + " stands in the source", matcher.find(), false);
        }
        CHECK.due("a lambda or a method reference", code.contains("->") || code.contains("::"), false);
        CHECK.due("a remainder or a quotient, which could be by 0", code.matches("(?s).*[%/].*"), false);
    }
}
