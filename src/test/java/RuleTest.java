import java.util.ArrayList;
import java.util.HashMap;
import java.util.List;
import java.util.Map;
import java.util.Random;
import java.util.regex.Pattern;

/**
 * Texts read by rule() and law(), held against the words of the Terms alone: a text is a RULE, if it can be split into
 * its parts; a sign can stand at p, if some RULE begins with the signs up to it. Nothing here reads from the left, as
 * QueueDrive and PlainDrive do.
 */
public final class RuleTest {
    private static final int LONGEST = 40;
    private static final int DEEPEST = 4;
    private static final String FEW = "1o-+<()";
    private static final int ALL_UP_TO = 5;
    private static final String MANY = "0123456789obvqcdn+-*/<>=()((--))";
    private static final int DRAWN = 800;
    private static final Pattern SINGLE = Pattern.compile("[0-9]{1,3}|[obvqcdn]");

    private final Map<String, Boolean> beginnings = new HashMap<>();
    private Calls drive = Calls.onNew();
    private int texts;
    private int wrong;

    private RuleTest() {
    }

    public static void main(String[] args) {
        RuleTest test = new RuleTest();
        test.all("");
        Random random = new Random(1);
        for (int i = 0; i < DRAWN; i++) {
            test.check(test.drawn(random));
        }
        System.out.println(test.texts + " texts, " + (test.wrong == 0 ? "all read as due" : test.wrong + " wrong"));
        if (test.wrong > 0) {
            System.exit(1);
        }
    }

    private void all(String text) {
        check(text);
        for (int i = 0; i < FEW.length() && text.length() < ALL_UP_TO; i++) {
            all(text + FEW.charAt(i));
        }
    }

    /** Mostly of signs that can stand there, so that many texts come to their end or past the fortieth sign. */
    private String drawn(Random random) {
        String text = "";
        int length = random.nextInt(4) == 0 ? LONGEST - 2 + random.nextInt(5) : random.nextInt(LONGEST);
        while (text.length() < length) {
            if (random.nextInt(200) == 0 || text.length() >= LONGEST) {
                text += (char) random.nextInt(256);
            } else {
                String longer = text + MANY.charAt(random.nextInt(MANY.length()));
                text = begins(longer) ? longer : text;
            }
        }
        return text;
    }

    private void check(String text) {
        texts++;
        int place = wrongPlace(text);
        due("rule", text, place < 0 ? 0 : -1 - place);
        int law = answer("law", text);
        if (place < 0 ? law <= -1000 : law != -1000 - place) {
            wrong++;
            System.out.println("law() of \"" + text + "\" answered " + law);
        }
    }

    private void due(String call, String text, int due) {
        int got = answer(call, text);
        if (got != due) {
            wrong++;
            System.out.println(call + "() of \"" + text + "\" answered " + got + ", due is " + due);
        }
    }

    private int answer(String call, String text) {
        if (drive.left() < Calls.costOf(text) + 1) {
            drive = Calls.onNew();
        }
        drive.text(text);
        return Integer.parseInt(drive.answer(call));
    }

    /** Where a sign, or the end, can't stand; -1: the text is a RULE. */
    private int wrongPlace(String text) {
        for (int p = 0; p < text.length() && p < LONGEST; p++) {
            if (!begins(text.substring(0, p + 1))) {
                return p;
            }
        }
        if (text.length() > LONGEST) {
            return LONGEST;
        }
        return text.isEmpty() || isExpression(text, 0) ? -1 : text.length();
    }

    /** Whether some RULE begins so: if any does, one that goes on with a thing, if one is due, and closes what is open. */
    private boolean begins(String text) {
        Boolean known = beginnings.get(text);
        if (known == null) {
            known = false;
            String close = "";
            for (int i = 0; i <= DEEPEST && !known; i++) {
                known = isExpression(text + close, 0) || isExpression(text + "1" + close, 0);
                close += ")";
            }
            beginnings.put(text, known);
        }
        return known;
    }

    private static boolean isExpression(String text, int within) {
        List<String> parts = split(text, "<>=");
        return parts.size() <= 2 && parts.stream().allMatch(part -> isSum(part, within));
    }

    private static boolean isSum(String text, int within) {
        return split(text, "+-*/").stream().allMatch(part -> isThing(withoutMinus(part), within));
    }

    private static String withoutMinus(String text) {
        int from = 0;
        while (from < text.length() && text.charAt(from) == '-') {
            from++;
        }
        return text.substring(from);
    }

    private static boolean isThing(String text, int within) {
        if (SINGLE.matcher(text).matches()) {
            return true;
        }
        return text.startsWith("(") && text.endsWith(")") && text.length() > 2 && within < DEEPEST
            && isExpression(text.substring(1, text.length() - 1), within + 1);
    }

    /** The text, parted where one of the signs stands outside of ( ) and behind a thing. */
    private static List<String> split(String text, String signs) {
        List<String> parts = new ArrayList<>();
        int open = 0;
        int from = 0;
        for (int i = 0; i < text.length(); i++) {
            open += text.charAt(i) == '(' ? 1 : text.charAt(i) == ')' ? -1 : 0;
            boolean behindThing = i > 0 && "(<>=+-*/".indexOf(text.charAt(i - 1)) < 0;
            if (open == 0 && behindThing && signs.indexOf(text.charAt(i)) >= 0) {
                parts.add(text.substring(from, i));
                from = i + 1;
            }
        }
        parts.add(text.substring(from));
        return parts;
    }
}
