import java.io.IOException;
import java.lang.reflect.Method;
import java.lang.reflect.Modifier;
import java.nio.file.DirectoryStream;
import java.nio.file.Files;
import java.nio.file.Path;
import java.util.ArrayList;
import java.util.List;
import java.util.regex.Matcher;
import java.util.regex.Pattern;

/** The tests and README.md against the document: no sentence without a test, no call without a word, no false example. */
public final class DocumentTest {
    private static final Check CHECK = new Check("DocumentTest");
    private static final Pattern QUOTE = Pattern.compile("CHECK\\.by\\(((?:[\\s+]*\"[^\"]*\")+)\\)");
    private static final Pattern STRING = Pattern.compile("\"([^\"]*)\"");
    private static final Pattern CALL = Pattern.compile("^cargo\\.(\\w+)\\((.*?)\\);(?: +// (\\w+):.*)?$");
    private static final Pattern FED = Pattern.compile("^Check\\.feed\\(cargo, \"(.*)\"\\);$");
    private static final char QUOTED = '\u0001';

    public static void main(String[] args) throws IOException {
        everySentenceIsQuoted();
        String readme = Files.readString(Path.of("README.md"));
        everyCallIsTold(readme);
        examplesAreTrue(readme);
        CHECK.close();
    }

    private static void everySentenceIsQuoted() throws IOException {
        int from = Check.DOCUMENT.indexOf("## Terms");
        int to = Check.DOCUMENT.indexOf("## Not promised");
        StringBuilder text = new StringBuilder(Check.DOCUMENT.substring(from, to));
        for (String quote : quotes()) {
            markAll(text, quote);
        }
        for (String line : text.toString().split("\n")) {
            boolean promises = !line.startsWith("## ") && !line.startsWith("```");
            String rest = line.replaceAll("^==== \\d\\.", "").replaceAll("^`[^`]*`:", "").replaceAll(QUOTED + "+", " .. ");
            CHECK.no("words without a test: " + rest, promises && rest.matches(".*\\w.*"));
        }
    }

    private static List<String> quotes() throws IOException {
        List<String> quotes = new ArrayList<>();
        try (DirectoryStream<Path> tests = Files.newDirectoryStream(Path.of("src/test/java"), "*Test.java")) {
            for (Path test : tests) {
                Matcher quote = QUOTE.matcher(Files.readString(test));
                while (quote.find()) {
                    quotes.add(joined(quote.group(1)));
                }
            }
        }
        return quotes;
    }

    private static String joined(String strings) {
        StringBuilder whole = new StringBuilder();
        Matcher string = STRING.matcher(strings);
        while (string.find()) {
            whole.append(string.group(1));
        }
        return whole.toString();
    }

    /** Looks in the document itself, as quotes may lie over one another. */
    private static void markAll(StringBuilder text, String quote) {
        int start = Check.DOCUMENT.indexOf("## Terms");
        for (int at = Check.DOCUMENT.indexOf(quote, start); at >= 0; at = Check.DOCUMENT.indexOf(quote, at + 1)) {
            for (int i = at - start; i < at - start + quote.length() && i < text.length(); i++) {
                text.setCharAt(i, QUOTED);
            }
        }
    }

    private static void everyCallIsTold(String readme) {
        for (Method method : SoupCargo.class.getDeclaredMethods()) {
            if (Modifier.isPublic(method.getModifiers())) {
                CHECK.yes("README.md tells " + method.getName(), readme.contains("`" + method.getName() + "("));
            }
        }
    }

    private static void examplesAreTrue(String readme) {
        SoupCargo cargo = new SoupCargo();
        int examples = 0;
        int calls = 0;
        for (String line : readme.split("\n")) {
            Matcher call = CALL.matcher(line);
            Matcher fed = FED.matcher(line);
            if (line.equals("SoupCargo cargo = new SoupCargo();")) {
                cargo = new SoupCargo();
                examples++;
            } else if (fed.matches()) {
                Check.feed(cargo, fed.group(1));
            } else if (call.matches()) {
                int answer = Calls.answer(cargo, call.group(1), arguments(call.group(2)));
                CHECK.due("README.md: " + line, answer, number(call.group(3)));
                calls++;
            } else {
                CHECK.no("README.md has a call that is not understood: " + line, line.startsWith("cargo."));
            }
        }
        CHECK.due("examples", examples, 3);
        CHECK.yes("calls in the examples", calls > 40);
    }

    private static int[] arguments(String told) {
        String[] parts = told.isEmpty() ? new String[0] : told.split(", ");
        int[] values = new int[parts.length];
        for (int i = 0; i < parts.length; i++) {
            values[i] = number(parts[i]);
        }
        return values;
    }

    private static int number(String told) {
        switch (told) {
            case "true":
                return 1;
            case "false":
                return 0;
            case "NONE":
            case "SoupCargo.NONE":
                return SoupCargo.NONE;
            default:
                return Integer.decode(told);
        }
    }
}
