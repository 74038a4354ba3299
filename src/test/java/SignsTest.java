/**
 * Every sign, 0 to 255, at every kind of place in a text: rule(), law(), queues() and day() refuse it there,
 * by its place, unless the document has it stand there.
 */
public final class SignsTest {
    private static final int SIGNS = 256;
    private static final String DIGITS = "0123456789";
    private static final String THINGS = DIGITS + "obvqcdn-(";
    private static final String JOINS = "+-*/";
    private static final String COMPARES = "<>=";
    private static final String LONG_SUM = "1+1+1+1+1+1+1+1+1+1+1+1+1+1+1+1+1+1+1+";

    /** A beginning of a RULE, and the signs that can stand behind it. */
    private static final String[][] RULES = {
        {"", THINGS},
        {"-", THINGS},
        {"--", THINGS},
        {"(", THINGS},
        {"((((", DIGITS + "obvqcdn-"},
        {"((((1))))+((((", DIGITS + "obvqcdn-"},
        {"5+", THINGS},
        {"5-", THINGS},
        {"5*", THINGS},
        {"5/", THINGS},
        {"5<", THINGS},
        {"5>", THINGS},
        {"5=", THINGS},
        {"5", DIGITS + JOINS + COMPARES},
        {"55", DIGITS + JOINS + COMPARES},
        {"555", JOINS + COMPARES},
        {"-5", DIGITS + JOINS + COMPARES},
        {"-555", JOINS + COMPARES},
        {"o", JOINS + COMPARES},
        {"b", JOINS + COMPARES},
        {"v", JOINS + COMPARES},
        {"q", JOINS + COMPARES},
        {"c", JOINS + COMPARES},
        {"d", JOINS + COMPARES},
        {"n", JOINS + COMPARES},
        {"-o", JOINS + COMPARES},
        {"o*b", JOINS + COMPARES},
        {"o+5", DIGITS + JOINS + COMPARES},
        {"o<5", DIGITS + JOINS},
        {"o<b", JOINS},
        {"o=b+555", JOINS},
        {"(5", DIGITS + JOINS + COMPARES + ")"},
        {"(o", JOINS + COMPARES + ")"},
        {"((((o", JOINS + COMPARES + ")"},
        {"(o<b", JOINS + ")"},
        {"o<(b", JOINS + COMPARES + ")"},
        {"o<(b>v", JOINS + ")"},
        {"o<(b>v)", JOINS},
        {"(o)", JOINS + COMPARES},
        {"((o)", JOINS + COMPARES + ")"},
        {"(o<b)", JOINS + COMPARES},
        {"(o<b)*-(c", JOINS + COMPARES + ")"},
        {LONG_SUM + "1", DIGITS + JOINS + COMPARES},
    };

    private static final String[][] QUEUES = {
        {"", "2345678"},
        {"8", "2345678"},
        {"22", "uhml"},
        {"88l", "s"},
        {"43us", ""},
    };

    private static final String ACTS = "prtkcx";
    private static final String[][] DAYS = {
        {"", ACTS},
        {"x", ACTS},
        {"p", DIGITS},
        {"p9", "01234"},
        {"p94", DIGITS},
        {"p949", DIGITS},
        {"p9499", DIGITS},
        {"p94999", ACTS},
        {"r", DIGITS},
        {"r0", ACTS},
        {"t", DIGITS},
        {"t9", ACTS},
        {"k", DIGITS},
        {"k0", ACTS},
        {"c", DIGITS},
        {"c0", DIGITS},
        {"c00", DIGITS},
        {"c000", ACTS},
        {"xp01155r0t2k0c015", ACTS},
    };

    private int wrong;

    private SignsTest() {
    }

    public static void main(String[] args) {
        SignsTest test = new SignsTest();
        for (String[] kind : RULES) {
            test.eachSign("rule", -1, kind[0], kind[1]);
            test.eachSign("law", -1000, kind[0], kind[1]);
        }
        for (String[] kind : QUEUES) {
            test.eachSign("queues", -1, kind[0], kind[1]);
        }
        for (String[] kind : DAYS) {
            test.eachSign("day", -1, kind[0], kind[1]);
        }
        test.foreignSigns();
        test.foreignSignsLeaveTheRule();
        System.out.println(test.wrong == 0 ? "each sign stands where it may" : test.wrong + " signs are wrong");
        if (test.wrong > 0) {
            System.exit(1);
        }
    }

    /** Behind the beginning each sign is refused at its place, but for those that can stand there. */
    private void eachSign(String reader, int first, String beginning, String can) {
        int place = beginning.length();
        for (int sign = 0; sign < SIGNS; sign++) {
            String text = beginning + (char) sign;
            int got = answer(reader, text);
            boolean stands = can.indexOf(sign) >= 0;
            boolean refusedThere = got == first - place;
            boolean endsTooEarly = got == first - place - 1;
            boolean alike = stands ? endsTooEarly || !isRefused(reader, got) : refusedThere;
            due(alike, reader, text, got);
            if (!stands) {
                // what comes behind it is not looked at
                int longer = answer(reader, text + "1)");
                due(longer == first - place, reader, text + "1)", longer);
            }
        }
    }

    private static boolean isRefused(String reader, int answer) {
        return reader.equals("law") ? answer <= -1000 : answer < 0;
    }

    /** A sign that no RULE has, at each place of some RULES, also at the fortieth and behind it. */
    private void foreignSigns() {
        String[] rules = {"1+(o>0)", "-(b*(v-(q/(c+1))))=d", "((((n))))<123", LONG_SUM + "10", LONG_SUM + "1-1"};
        String known = DIGITS + "obvqcdn()" + JOINS + COMPARES;
        for (String rule : rules) {
            for (int sign = 0; sign < SIGNS; sign++) {
                for (int p = 0; p <= rule.length() && known.indexOf(sign) < 0; p++) {
                    String within = rule.substring(0, p) + (char) sign + rule.substring(p);
                    String instead = rule.substring(0, p) + (char) sign + rule.substring(Math.min(p + 1, rule.length()));
                    int place = Math.min(p, 40);
                    due(answer("rule", within) == -1 - place, "rule", within, answer("rule", within));
                    due(answer("law", within) == -1000 - place, "law", within, answer("law", within));
                    due(answer("rule", instead) == -1 - place, "rule", instead, answer("rule", instead));
                }
            }
        }
    }

    /** A RULE with a sign that none has is refused: THE RULE stays, THE TEXT is empty. */
    private void foreignSignsLeaveTheRule() {
        for (int sign = 0; sign < SIGNS; sign++) {
            if ((DIGITS + JOINS + COMPARES).indexOf(sign) >= 0) {
                continue;
            }
            Calls drive = Calls.onNew();
            ask(drive, "queues", "88h");
            ask(drive, "rule", "7");
            ask(drive, "rule", "3" + (char) sign);
            int left = Integer.parseInt(drive.answer("count", 11));
            due(left == 0, "count(11)", "3" + (char) sign, left);
            ask(drive, "day", "p00000r0t1");
            drive.answer("running");
            int time = Integer.parseInt(drive.answer("row", 0));
            due(time == 7, "running()", "3" + (char) sign, time);
        }
    }

    private static int answer(String reader, String text) {
        return ask(Calls.onNew(), reader, text);
    }

    private static int ask(Calls drive, String reader, String text) {
        drive.text(text);
        return Integer.parseInt(drive.answer(reader));
    }

    private void due(boolean alike, String call, String text, int got) {
        if (!alike) {
            wrong++;
            System.out.println(call + " with \"" + text + "\" answered " + got);
        }
    }
}
