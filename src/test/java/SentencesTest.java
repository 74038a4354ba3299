import java.io.IOException;
import java.nio.file.Files;
import java.nio.file.Path;
import java.util.ArrayList;
import java.util.LinkedHashMap;
import java.util.List;
import java.util.Map;

/**
 * The sentences that the files under src/test/sentences name: each stands in the document where the file says
 * (t1, t2: the Terms; 01 .. 43: a promise), has a run with an answer due, and together they leave nothing out of the
 * Terms and the promises. What the runs ask is held by RunsTest.
 */
public final class SentencesTest {
    private static final Path DOCUMENT = Path.of("../shared/DOC.md");
    private static final String HEADINGS = "Ahead of the calls ";

    private int wrong;

    public static void main(String[] args) throws IOException {
        SentencesTest test = new SentencesTest();
        List<Script> scripts = Script.allIn("src/test/sentences");
        test.checkRuns(scripts);
        if (Files.exists(DOCUMENT)) {
            test.checkAgainst(sections(Files.readAllLines(DOCUMENT)), scripts);
        } else {
            System.out.println(DOCUMENT + " is not there: the sentences are not held against it");
        }
        System.out.println(test.wrong == 0 ? "each sentence has a test" : test.wrong + " sentences are wrong");
        if (test.wrong > 0) {
            System.exit(1);
        }
    }

    private void fault(String what) {
        wrong++;
        System.out.println(what);
    }

    private void checkRuns(List<Script> scripts) {
        for (Script script : scripts) {
            for (Script.Run run : script.runs()) {
                if (run.sentence() == null || run.lines().isEmpty()) {
                    fault(script.name() + ": a run without a sentence, or without a call");
                }
            }
            for (String sentence : script.sentences()) {
                if (script.runs().stream().noneMatch(r -> sentence.equals(r.sentence()))) {
                    fault(script.name() + ": no run for: " + sentence);
                }
            }
        }
    }

    /** The text of each Term ("t1", "t2") and of each promise ("01" ..), with one space between its words. */
    private static Map<String, String> sections(List<String> document) {
        Map<String, String> sections = new LinkedHashMap<>();
        String part = "";
        String section = "";
        for (String line : document) {
            if (line.startsWith("## ")) {
                part = line;
                section = line.startsWith("## Promise ") ? promise(line) : "";
            } else if (part.equals("## Terms") && line.matches("[0-9]\\. .*")) {
                section = "t" + line.charAt(0);
                sections.put(section, line.substring(3));
            } else if (!section.isEmpty() && !line.startsWith("```") && !line.startsWith(HEADINGS)) {
                sections.merge(section, line, (all, more) -> all + " " + more);
            }
        }
        sections.replaceAll((name, text) -> text.replaceAll("\\s+", " ").trim());
        return sections;
    }

    private static String promise(String heading) {
        return String.format("%02d", Integer.parseInt(heading.replaceAll("## Promise ([0-9]+):.*", "$1")));
    }

    private void checkAgainst(Map<String, String> sections, List<Script> scripts) {
        Map<String, boolean[]> covered = new LinkedHashMap<>();
        sections.forEach((name, text) -> covered.put(name, new boolean[text.length()]));
        for (Script script : scripts) {
            String name = script.part();
            String text = sections.getOrDefault(name, "");
            for (String sentence : script.sentences()) {
                int at = text.indexOf(sentence);
                if (at < 0) {
                    fault(script.name() + ": the document does not say there: " + sentence);
                }
                for (int i = at; at >= 0 && i < at + sentence.length(); i++) {
                    covered.get(name)[i] = true;
                }
            }
        }
        sections.forEach((name, text) -> {
            for (String rest : uncovered(text, covered.get(name))) {
                fault(name + ": no test is about: " + rest);
            }
        });
    }

    private static List<String> uncovered(String text, boolean[] covered) {
        List<String> rests = new ArrayList<>();
        StringBuilder rest = new StringBuilder();
        for (int i = 0; i <= text.length(); i++) {
            if (i < text.length() && !covered[i]) {
                rest.append(text.charAt(i));
            } else if (!rest.toString().isBlank()) {
                rests.add(rest.toString().trim());
                rest.setLength(0);
            } else {
                rest.setLength(0);
            }
        }
        return rests;
    }
}
