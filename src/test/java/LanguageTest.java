import java.io.IOException;
import java.lang.reflect.Constructor;
import java.lang.reflect.Field;
import java.lang.reflect.Method;
import java.lang.reflect.Modifier;
import java.nio.file.Files;
import java.nio.file.Path;
import java.util.Arrays;
import java.util.Set;
import java.util.TreeSet;
import java.util.regex.Matcher;
import java.util.regex.Pattern;
import java.util.stream.Collectors;

/** The face of the document, and those rules of LANGUAGE.md that a look at the words of the source can tell. */
public final class LanguageTest {
    private static final Check CHECK = new Check("LanguageTest");
    private static final Set<String> LIBRARY =
        Set.of("Math.max", "Math.min", "Math.abs", "Integer.bitCount", "System.arraycopy");

    public static void main(String[] args) throws IOException {
        face();
        nestedClasses();
        wordsOfTheSource(Files.readString(Path.of("src/main/java/SoupCargo.java")));
        CHECK.close();
    }

    private static String told(Method method) {
        String types = Arrays.stream(method.getParameterTypes()).map(Class::getName).collect(Collectors.joining(","));
        return method.getName() + "(" + types + "):" + method.getReturnType().getName();
    }

    private static Set<String> faceOfTheDocument() {
        Set<String> face = new TreeSet<>();
        Matcher told = Pattern.compile("(?m)^    public (\\w+) (\\w+)\\((.*)\\);$").matcher(Check.DOCUMENT);
        while (told.find()) {
            String types = told.group(3).replaceAll(" \\w+(, )?", ",").replaceAll(",$", "");
            face.add(told.group(2) + "(" + types + "):" + told.group(1));
        }
        CHECK.due("calls in the document", face.size(), 30);
        return face;
    }

    private static void face() {
        CHECK.yes("final", Modifier.isFinal(SoupCargo.class.getModifiers()));
        Set<String> open = new TreeSet<>();
        Set<String> names = new TreeSet<>();
        for (Method method : SoupCargo.class.getDeclaredMethods()) {
            if (!Modifier.isPrivate(method.getModifiers())) {
                open.add(told(method));
                names.add(method.getName());
                CHECK.yes("public " + method, Modifier.isPublic(method.getModifiers()));
            }
        }
        CHECK.due("the face", open.toString(), faceOfTheDocument().toString());
        Constructor<?>[] constructors = SoupCargo.class.getDeclaredConstructors();
        CHECK.due("constructors", constructors.length, 1);
        CHECK.yes("public constructor", Modifier.isPublic(constructors[0].getModifiers()));
        for (Field field : SoupCargo.class.getDeclaredFields()) {
            CHECK.yes("private " + field, Modifier.isPrivate(field.getModifiers()) || field.getName().equals("NONE"));
        }
        for (Method method : SoupCargo.class.getDeclaredMethods()) {
            CHECK.no("name of a public one: " + method,
                Modifier.isPrivate(method.getModifiers()) && names.contains(method.getName()));
        }
    }

    private static void nestedClasses() {
        Class<?>[] nested = SoupCargo.class.getDeclaredClasses();
        CHECK.yes("at most twelve classes", nested.length <= 11);
        for (Class<?> one : nested) {
            CHECK.yes("static " + one, Modifier.isStatic(one.getModifiers()));
            CHECK.no("public " + one, Modifier.isPublic(one.getModifiers()));
            int fields = 0;
            for (Field field : one.getDeclaredFields()) {
                boolean constant = Modifier.isStatic(field.getModifiers());
                CHECK.yes("final " + field, !constant || Modifier.isFinal(field.getModifiers()));
                fields += constant ? 0 : 1;
            }
            CHECK.yes("twenty fields of " + one, fields <= 20);
            for (Method method : one.getDeclaredMethods()) {
                CHECK.yes("seven parameters " + method, method.getParameterCount() <= 7);
            }
        }
    }

    private static void wordsOfTheSource(String source) {
        String bare = source.replaceAll("(?s)/\\*.*?\\*/", "").replaceAll("//[^\n]*", "").replaceAll("\"[^\"\n]*\"", "\"\"");
        for (String word : new String[] {"throw", "throws", "try", "catch", "finally", "synchronized", "assert",
            "import", "package", "Object", "double", "float", "interface", "enum", "record", "NaN", "Exact"}) {
            CHECK.no("the word " + word, Pattern.compile("\\b" + word + "\\b").matcher(bare).find());
        }
        for (String sign : new String[] {"->", "::", "\"\" +", "+ \"\""}) {
            CHECK.no("the sign " + sign, bare.contains(sign));
        }
        Matcher library = Pattern.compile("\\b(?:Integer|Long|Math|System|Arrays|String|StringBuilder|List)\\.\\w+").matcher(bare);
        while (library.find()) {
            CHECK.yes("in the library of rule 4: " + library.group(), LIBRARY.contains(library.group()));
        }
        CHECK.yes("plain signs alone", source.chars().allMatch(c -> c == '\n' || c >= 32 && c < 127));
        Matcher method = Pattern.compile("(?m)^( +)(?:private |public |static |final )*[\\w\\[\\]]+ \\w+\\([^;=]*\\) \\{\n")
            .matcher(source);
        int methods = 0;
        while (method.find()) {
            int end = source.indexOf("\n" + method.group(1) + "}\n", method.end() - 1);
            long lines = source.substring(method.start(), Math.max(end, method.start())).lines().count();
            CHECK.yes("sixty lines: " + method.group().trim(), lines > 0 && lines <= 60);
            methods++;
        }
        CHECK.yes("methods were found", methods > 100);
    }
}
