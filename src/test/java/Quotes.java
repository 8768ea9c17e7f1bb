import java.io.IOException;
import java.lang.reflect.Method;
import java.nio.file.Files;
import java.nio.file.Path;
import java.util.ArrayList;
import java.util.LinkedHashMap;
import java.util.List;
import java.util.Map;

/**
 * Run by hand, no test: looks whether the words that the tests quote (Says) stand in the document where the tests say,
 * and prints each section of it with these words left out, so that it can be seen for what there is no test.
 */
public final class Quotes {
    private static final Class<?>[] TESTS = {LampEdgesTest.class, KeyEdgesTest.class, AirEdgesTest.class,
        LetterEdgesTest.class, ToldEdgesTest.class, ImageEdgesTest.class, RefusalsTest.class, FaceTest.class};

    public static void main(String[] args) throws IOException {
        Map<String, String> sections = sections(Files.readAllLines(Path.of("../shared/DOC.md")));
        Map<String, List<String>> quotes = new LinkedHashMap<>();
        int missing = 0;
        for (Class<?> test : TESTS) {
            for (Method method : test.getDeclaredMethods()) {
                Says says = method.getAnnotation(Says.class);
                if (says != null) {
                    String in = says.in().split(" for ")[0];
                    quotes.computeIfAbsent(in, key -> new ArrayList<>()).add(says.text());
                    if (!sections.getOrDefault(in, "").contains(says.text())) {
                        missing++;
                        System.out.println(method.getName() + ": not in " + in + ": " + says.text());
                    }
                }
            }
        }
        for (Map.Entry<String, String> section : sections.entrySet()) {
            List<String> quoted = quotes.getOrDefault(section.getKey(), List.of());
            System.out.println("\n" + section.getKey() + ": " + leaveOut(section.getValue(), quoted));
        }
        System.exit(missing == 0 ? 0 : 1);
    }

    /** The text of each heading, of the head of Terms, and of its three paragraphs, in one line each. */
    private static Map<String, String> sections(List<String> lines) {
        Map<String, String> sections = new LinkedHashMap<>();
        String name = "";
        for (String line : lines) {
            if (line.startsWith("## ")) {
                name = line.substring(3).split(":")[0];
            } else if (line.startsWith("======== ")) {
                name = "Terms " + line.charAt(9);
            } else if (line.startsWith("The constants:")) {
                name = "The constants";
            }
            sections.merge(name, line.trim(), (before, more) -> (before + " " + more).trim());
        }
        return sections;
    }

    private static String leaveOut(String text, List<String> quotes) {
        boolean[] quoted = new boolean[text.length()];
        for (String quote : quotes) {
            for (int at = text.indexOf(quote); at >= 0; at = text.indexOf(quote, at + 1)) {
                for (int i = at; i < at + quote.length(); i++) {
                    quoted[i] = true;
                }
            }
        }
        StringBuilder left = new StringBuilder();
        for (int i = 0; i < text.length(); i++) {
            if (!quoted[i]) {
                left.append(text.charAt(i));
            } else if (i == 0 || !quoted[i - 1]) {
                left.append(" [..] ");
            }
        }
        return left.toString();
    }
}
