import java.io.IOException;
import java.nio.file.Files;
import java.nio.file.Path;
import java.util.ArrayList;
import java.util.LinkedHashMap;
import java.util.List;
import java.util.Map;
import java.util.regex.Matcher;
import java.util.regex.Pattern;

/**
 * Every boundary case that the document names. The words that each test quotes are looked up in the
 * document, and every refusal and every number of its terms and promises must be among them.
 */
public final class EdgesTest {
    private static final Path DOCUMENT = Path.of("../shared/DOC.md");
    private static final Pattern BOUNDARY = Pattern.compile("BAD|STATE|FULL|NONE|ENDLESS|-?\\d+");

    private EdgesTest() {}

    public static void main(String[] args) throws IOException {
        Edges edges = new Edges();
        EdgesOfTerms.tell(edges);
        EdgesOfRoutines.tell(edges);
        EdgesOfDepths.tell(edges);
        EdgesOfTasks.tell(edges);
        EdgesOfRuns.tell(edges);
        EdgesOfSheets.tell(edges);
        int wrong = edges.end();
        if (Files.isReadable(DOCUMENT)) {
            wrong += lookedUp(edges.quotes(), sections(Files.readString(DOCUMENT)));
        } else {
            System.out.println("EdgesTest: " + DOCUMENT + " is not there, so that no words were looked up in it");
        }
        if (wrong != 0) System.exit(1);
    }

    /** The texts of the sections by their names, of promises "Promise 1" and so on. */
    private static Map<String, String> sections(String document) {
        Map<String, String> sections = new LinkedHashMap<>();
        for (String part : document.split("(?m)^## ")) {
            int end = part.indexOf('\n');
            if (end < 0) continue;
            String text = part.substring(end).replaceAll("(?m)^=+ \\d+ ", "").replaceAll("\\s+", " ");
            sections.put(part.substring(0, end).replaceAll(":.*", "").strip(), text);
        }
        return sections;
    }

    private static int lookedUp(List<Edges.Quote> quotes, Map<String, String> sections) {
        int wrong = 0;
        Map<String, boolean[]> quoted = new LinkedHashMap<>();
        sections.forEach((name, text) -> quoted.put(name, new boolean[text.length()]));
        for (Edges.Quote quote : quotes) {
            String text = sections.getOrDefault(quote.section(), "");
            int at = text.indexOf(quote.words());
            if (at < 0) {
                wrong++;
                System.out.println("EdgesTest: \"" + quote.words() + "\" is not in " + quote.section());
            }
            for (; at >= 0; at = text.indexOf(quote.words(), at + 1)) {
                for (int i = at; i < at + quote.words().length(); i++) quoted.get(quote.section())[i] = true;
            }
        }
        for (String missing : unquoted(sections, quoted)) {
            wrong++;
            System.out.println("EdgesTest: no test quotes " + missing);
        }
        return wrong;
    }

    private static List<String> unquoted(Map<String, String> sections, Map<String, boolean[]> quoted) {
        List<String> missing = new ArrayList<>();
        sections.forEach((name, text) -> {
            if (!name.equals("Terms") && !name.startsWith("Promise ")) return;
            Matcher matcher = BOUNDARY.matcher(text);
            while (matcher.find()) {
                if (quoted.get(name)[matcher.start()] && quoted.get(name)[matcher.end() - 1]) continue;
                int from = Math.max(0, matcher.start() - 30), to = Math.min(text.length(), matcher.end() + 30);
                missing.add(matcher.group() + " of " + name + ": .." + text.substring(from, to) + "..");
            }
        });
        return missing;
    }
}
