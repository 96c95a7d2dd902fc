import java.util.ArrayList;
import java.util.List;
import java.util.Map;
import java.util.Set;

/**
 * Runs of calls on new objects, a call on each line with the answer that is due:
 * "insert 0 5 = 1", or "insert 0 5 ! -3" if the call is refused. After a refused call
 * or a question all must be as if that call had not been made.
 */
final class Script {
    // Nothing is promised about an object after that many calls, so no script may rely on more.
    private static final int MOST_CALLS = 512;

    private static final Map<String, Integer> ARGUMENTS = Map.ofEntries(
        Map.entry("link", 4), Map.entry("insert", 2), Map.entry("remove", 2), Map.entry("rekey", 3),
        Map.entry("refer", 4), Map.entry("value", 3), Map.entry("begin", 0), Map.entry("mark", 0),
        Map.entry("back", 0), Map.entry("commit", 0), Map.entry("rollback", 0), Map.entry("rows", 1),
        Map.entry("keyAt", 2), Map.entry("reference", 3), Map.entry("valueOf", 2),
        Map.entry("referrers", 2), Map.entry("wouldGo", 2), Map.entry("dangling", 0),
        Map.entry("sum", 1));
    private static final Set<String> QUESTIONS = Set.of("rows", "keyAt", "reference", "valueOf",
        "referrers", "wouldGo", "dangling", "sum");

    private static int scripts = 0;
    private static int wrong = 0;

    private Script() {
    }

    private static final class Line {
        final String text;
        final String name;
        final int[] arguments;
        final boolean refused;
        final int due;

        Line(String text) {
            this.text = text;
            String[] words = text.split(" +");
            name = words[0];
            int count = words.length - 3;
            if (!ARGUMENTS.containsKey(name) || ARGUMENTS.get(name) != count) {
                throw new IllegalArgumentException("no such call: " + text);
            }
            arguments = new int[count];
            for (int i = 0; i < count; i++) {
                arguments[i] = number(words[i + 1]);
            }
            String sign = words[count + 1];
            if (!sign.equals("=") && !sign.equals("!")) {
                throw new IllegalArgumentException("neither = nor !: " + text);
            }
            refused = sign.equals("!");
            due = number(words[count + 2]);
        }

        boolean changesNothing() {
            return refused || QUESTIONS.contains(name);
        }
    }

    private static int number(String word) {
        if (word.equals("min")) {
            return Integer.MIN_VALUE;
        }
        if (word.equals("max")) {
            return Integer.MAX_VALUE;
        }
        return Integer.parseInt(word);
    }

    /** An object that is asked by the names of its calls, and how often it was. */
    private static final class Counted {
        final ReferenceTables x = new ReferenceTables();
        int calls = 0;

        int ask(String name, int... a) {
            calls++;
            if (calls > MOST_CALLS) {
                throw new IllegalStateException("more than " + MOST_CALLS + " calls");
            }
            switch (name) {
                case "link": return x.link(a[0], a[1], a[2], a[3]);
                case "insert": return x.insert(a[0], a[1]);
                case "remove": return x.remove(a[0], a[1]);
                case "rekey": return x.rekey(a[0], a[1], a[2]);
                case "refer": return x.refer(a[0], a[1], a[2], a[3]);
                case "value": return x.value(a[0], a[1], a[2]);
                case "begin": return x.begin();
                case "mark": return x.mark();
                case "back": return x.back();
                case "commit": return x.commit();
                case "rollback": return x.rollback();
                case "rows": return x.rows(a[0]);
                case "keyAt": return x.keyAt(a[0], a[1]);
                case "reference": return x.reference(a[0], a[1], a[2]);
                case "valueOf": return x.valueOf(a[0], a[1]);
                case "referrers": return x.referrers(a[0], a[1]);
                case "wouldGo": return x.wouldGo(a[0], a[1]);
                case "dangling": return x.dangling();
                case "sum": return x.sum(a[0]);
                default: throw new IllegalArgumentException(name);
            }
        }

        int ask(Line line) {
            return ask(line.name, line.arguments);
        }
    }

    /** All that can be found out about an object; it is of no use afterwards. */
    private static String allOf(Counted x) {
        StringBuilder seen = new StringBuilder();
        seeRows(x, seen);
        boolean open = x.ask("begin") == -1;
        seen.append(open ? " open" : " not open");
        if (open) {
            seeKept(x, seen);
        }
        x.ask("rollback");
        clear(x);
        seeLinks(x, seen);
        return seen.toString();
    }

    private static void seeRows(Counted x, StringBuilder seen) {
        for (int table = 0; table < 3; table++) {
            int rows = x.ask("rows", table);
            seen.append(" | ").append(rows).append(" rows, sum ").append(x.ask("sum", table)).append(":");
            for (int k = 0; k < rows; k++) {
                int key = x.ask("keyAt", table, k);
                seen.append(" ").append(key)
                    .append("(").append(x.ask("reference", table, key, 0))
                    .append(" ").append(x.ask("reference", table, key, 1))
                    .append(" ").append(x.ask("valueOf", table, key)).append(")");
            }
        }
        seen.append(" | ").append(x.ask("dangling")).append(" dangling");
    }

    private static void seeKept(Counted x, StringBuilder seen) {
        int marks = x.ask("mark");
        seen.append(", mark ").append(marks);
        int left = x.ask("back");
        seeRows(x, seen);
        while (left > 0) {
            left = x.ask("back");
            seen.append(", back ").append(left);
            seeRows(x, seen);
        }
        seen.append(", back ").append(x.ask("back"));
        seeRows(x, seen);
    }

    private static void clear(Counted x) {
        for (int table = 0; table < 3; table++) {
            int rows = x.ask("rows", table);
            for (int k = 0; k < rows; k++) {
                int key = x.ask("keyAt", table, k);
                x.ask("refer", table, key, 0, -1);
                x.ask("refer", table, key, 1, -1);
            }
        }
        for (int table = 0; table < 3; table++) {
            int rows = x.ask("rows", table);
            for (int k = 0; k < rows; k++) {
                x.ask("remove", table, x.ask("keyAt", table, 0));
            }
        }
    }

    private static void seeLinks(Counted x, StringBuilder seen) {
        for (int table = 0; table < 3; table++) {
            x.ask("insert", table, 10 + table);
        }
        for (int table = 0; table < 3; table++) {
            for (int column = 0; column < 2; column++) {
                seen.append(" | link to");
                for (int to = 0; to < 3; to++) {
                    if (x.ask("refer", table, 10 + table, column, 10 + to) != -9) {
                        seen.append(" ").append(to);
                    }
                }
                x.ask("refer", table, 10 + table, column, -1);
                seen.append(" by ").append(x.ask("link", table, column, 0, -1));
            }
        }
    }

    private static List<Line> lines(String... parts) {
        List<Line> all = new ArrayList<>();
        for (String text : String.join("\n", parts).split("[\n;]")) {
            if (!text.isBlank()) {
                all.add(new Line(text.strip()));
            }
        }
        if (all.isEmpty()) {
            throw new IllegalArgumentException("no calls");
        }
        return all;
    }

    private static void report(String sentence, Line line, String fault) {
        wrong++;
        System.out.println(sentence + "\n    " + line.text + "\n    " + fault);
    }

    private static void checkAnswers(String sentence, List<Line> lines) {
        scripts++;
        Counted x = new Counted();
        for (Line line : lines) {
            int got = x.ask(line);
            if (got != line.due) {
                report(sentence, line, "answered " + got);
            }
        }
    }

    private static Counted after(List<Line> lines, int count) {
        Counted x = new Counted();
        for (Line line : lines.subList(0, count)) {
            x.ask(line);
        }
        return x;
    }

    /** The answers of a run alone, for one that leaves no calls to look at all else. */
    static void answers(String sentence, String... parts) {
        checkAnswers(sentence, lines(parts));
    }

    /** The answers of a run, and that refused calls and questions change nothing. */
    static void holds(String sentence, String... parts) {
        List<Line> lines = lines(parts);
        checkAnswers(sentence, lines);
        for (int i = 0; i < lines.size(); i++) {
            if (lines.get(i).changesNothing()) {
                String without = allOf(after(lines, i));
                String with = allOf(after(lines, i + 1));
                if (!with.equals(without)) {
                    report(sentence, lines.get(i), "left " + with + "\n    where was " + without);
                }
            }
        }
    }

    /** The lines once for each number, with that number in place of every "?". */
    static String each(String lines, int... numbers) {
        StringBuilder all = new StringBuilder();
        for (int number : numbers) {
            all.append(lines.replace("?", String.valueOf(number))).append("\n");
        }
        return all.toString();
    }

    /** Puts rows into a table that has none. */
    static String rows(int table, int... keys) {
        StringBuilder all = new StringBuilder();
        for (int i = 0; i < keys.length; i++) {
            all.append("insert " + table + " " + keys[i] + " = " + (i + 1) + "\n");
        }
        return all.toString();
    }

    /** The numbers from the first to the last one. */
    static int[] from(int first, int last) {
        int[] numbers = new int[last - first + 1];
        for (int i = 0; i < numbers.length; i++) {
            numbers[i] = first + i;
        }
        return numbers;
    }

    static void end() {
        System.out.println(wrong == 0 ? scripts + " runs are as due" : wrong + " faults");
        if (wrong != 0) {
            System.exit(1);
        }
    }
}
