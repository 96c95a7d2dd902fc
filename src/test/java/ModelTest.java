import java.util.ArrayList;
import java.util.Arrays;
import java.util.LinkedHashSet;
import java.util.List;
import java.util.Random;
import java.util.Set;
import java.util.TreeMap;

/**
 * Long runs of made-up calls, the same ones each time, on the class and on a plain model.
 * The model holds rows as objects in sorted maps and tries each statement on a copy of all.
 */
public final class ModelTest {
    private static final int RUNS = 20000;
    // The rows are asked for at the end, by 180 calls; nothing is promised after 512.
    private static final int MOST_CALLS = 332;

    private static final class Row {
        final int[] refs = {-1, -1};
        int value;

        Row copy() {
            Row other = new Row();
            other.refs[0] = refs[0];
            other.refs[1] = refs[1];
            other.value = value;
            return other;
        }
    }

    private static final class Link {
        final int from;
        final int column;
        final int to;
        final int rule;

        Link(int from, int column, int to, int rule) {
            this.from = from;
            this.column = column;
            this.to = to;
            this.rule = rule;
        }
    }

    private static final class Data {
        final List<TreeMap<Integer, Row>> tables = new ArrayList<>();

        Data() {
            for (int table = 0; table < 3; table++) {
                tables.add(new TreeMap<>());
            }
        }

        Data copy() {
            Data other = new Data();
            for (int table = 0; table < 3; table++) {
                TreeMap<Integer, Row> into = other.tables.get(table);
                tables.get(table).forEach((key, row) -> into.put(key, row.copy()));
            }
            return other;
        }

        Row row(int table, int key) {
            return tables.get(table).get(key);
        }

        boolean sound(Link link) {
            for (Row row : tables.get(link.from).values()) {
                int ref = row.refs[link.column];
                if (ref != -1 && !tables.get(link.to).containsKey(ref)) {
                    return false;
                }
            }
            return true;
        }
    }

    /** The document's calls, word for word. */
    private static final class Model {
        Data data = new Data();
        final List<Link> links = new ArrayList<>();
        Data atBegin = null;
        final List<Data> kept = new ArrayList<>();

        static boolean table(int table) {
            return 0 <= table && table <= 2;
        }

        Link linkAt(int table, int column) {
            for (Link link : links) {
                if (link.from == table && link.column == column) {
                    return link;
                }
            }
            return null;
        }

        int link(int table, int column, int to, int rule) {
            if (!table(table) || (rule != -1 && !table(to))) return -1;
            if (column != 0 && column != 1) return -2;
            if (rule < -1 || rule > 3) return -3;
            if (atBegin != null) return -4;
            for (Row row : data.tables.get(table).values()) {
                if (row.refs[column] != -1) return -5;
            }
            Link old = linkAt(table, column);
            links.remove(old);
            if (rule != -1) links.add(new Link(table, column, to, rule));
            return old == null ? -1 : old.rule;
        }

        int tried(Data after, int answer) {
            for (Link link : links) {
                boolean looked = link.rule != 3 || atBegin == null;
                if (looked && data.sound(link) && !after.sound(link)) return -9;
            }
            data = after;
            return answer;
        }

        int insert(int table, int key) {
            if (!table(table)) return -1;
            if (key < 0 || key > 19) return -2;
            if (data.row(table, key) != null) return -3;
            if (data.tables.get(table).size() == 12) return -4;
            Data after = data.copy();
            after.tables.get(table).put(key, new Row());
            return tried(after, after.tables.get(table).size());
        }

        /** Rows are named by table * 100 + key. */
        Set<Integer> going(int table, int key) {
            Set<Integer> all = new LinkedHashSet<>();
            List<Integer> todo = new ArrayList<>();
            todo.add(table * 100 + key);
            while (!todo.isEmpty()) {
                int name = todo.remove(todo.size() - 1);
                if (all.add(name)) {
                    for (Link link : links) {
                        if (link.rule == 1 && link.to == name / 100) {
                            data.tables.get(link.from).forEach((other, row) -> {
                                if (row.refs[link.column] == name % 100) todo.add(link.from * 100 + other);
                            });
                        }
                    }
                }
            }
            return all;
        }

        boolean held(Set<Integer> going) {
            for (Link link : links) {
                for (int key : data.tables.get(link.from).keySet()) {
                    int ref = data.row(link.from, key).refs[link.column];
                    if (link.rule == 0 && ref != -1 && going.contains(link.to * 100 + ref)
                        && !going.contains(link.from * 100 + key)) {
                        return true;
                    }
                }
            }
            return false;
        }

        int wouldGo(int table, int key) {
            if (!table(table)) return -1;
            if (data.row(table, key) == null) return -2;
            Set<Integer> going = going(table, key);
            return held(going) ? -5 : going.size();
        }

        int remove(int table, int key) {
            int count = wouldGo(table, key);
            if (count < 0) return count;
            Set<Integer> going = going(table, key);
            Data after = data.copy();
            for (int name : going) {
                after.tables.get(name / 100).remove(name % 100);
            }
            for (Link link : links) {
                if (link.rule == 2) {
                    for (Row row : after.tables.get(link.from).values()) {
                        int ref = row.refs[link.column];
                        if (ref != -1 && going.contains(link.to * 100 + ref)) row.refs[link.column] = -1;
                    }
                }
            }
            return tried(after, count);
        }

        int rekey(int table, int key, int newKey) {
            if (!table(table)) return -1;
            if (data.row(table, key) == null) return -2;
            if (newKey < 0 || newKey > 19) return -3;
            if (data.row(table, newKey) != null) return -4;
            Data after = data.copy();
            after.tables.get(table).put(newKey, after.tables.get(table).remove(key));
            int changed = 0;
            for (Link link : links) {
                if (link.to != table) continue;
                for (Row row : after.tables.get(link.from).values()) {
                    if (row.refs[link.column] != key) continue;
                    if (link.rule == 0) return -5;
                    if (link.rule == 1) row.refs[link.column] = newKey;
                    if (link.rule == 2) row.refs[link.column] = -1;
                    if (link.rule != 3) changed++;
                }
            }
            return tried(after, changed);
        }

        int refer(int table, int key, int column, int reference) {
            if (!table(table)) return -1;
            if (data.row(table, key) == null) return -2;
            if (column != 0 && column != 1) return -3;
            if (reference < -1 || reference > 19) return -4;
            Data after = data.copy();
            after.row(table, key).refs[column] = reference;
            return tried(after, data.row(table, key).refs[column]);
        }

        int value(int table, int key, int value) {
            if (!table(table)) return -1;
            if (data.row(table, key) == null) return -2;
            data.row(table, key).value = value;
            return 1;
        }

        int begin() {
            if (atBegin != null) return -1;
            atBegin = data.copy();
            kept.clear();
            return 1;
        }

        int mark() {
            if (atBegin == null) return -1;
            if (kept.size() == 3) return -2;
            kept.add(data.copy());
            return kept.size();
        }

        int back() {
            if (atBegin == null) return -1;
            data = kept.isEmpty() ? atBegin.copy() : kept.remove(kept.size() - 1);
            return kept.size();
        }

        int commit() {
            if (atBegin == null) return -1;
            for (Link link : links) {
                if (link.rule == 3 && atBegin.sound(link) && !data.sound(link)) return -9;
            }
            atBegin = null;
            return 1;
        }

        int rollback() {
            if (atBegin == null) return -1;
            data = atBegin;
            atBegin = null;
            return 1;
        }

        int rows(int table) {
            return table(table) ? data.tables.get(table).size() : -1;
        }

        int keyAt(int table, int k) {
            if (!table(table)) return -1;
            List<Integer> keys = new ArrayList<>(data.tables.get(table).keySet());
            return k < 0 || k >= keys.size() ? -2 : keys.get(k);
        }

        int reference(int table, int key, int column) {
            if (!table(table)) return -2;
            if (data.row(table, key) == null) return -3;
            return column != 0 && column != 1 ? -4 : data.row(table, key).refs[column];
        }

        int valueOf(int table, int key) {
            return !table(table) || data.row(table, key) == null ? 0 : data.row(table, key).value;
        }

        int referrers(int table, int key) {
            if (!table(table)) return -1;
            if (data.row(table, key) == null) return -2;
            int count = 0;
            for (Link link : links) {
                for (Row row : data.tables.get(link.from).values()) {
                    if (link.to == table && row.refs[link.column] == key) count++;
                }
            }
            return count;
        }

        int dangling() {
            int count = 0;
            for (Link link : links) {
                for (Row row : data.tables.get(link.from).values()) {
                    int ref = row.refs[link.column];
                    if (ref != -1 && data.row(link.to, ref) == null) count++;
                }
            }
            return count;
        }

        int sum(int table) {
            if (!table(table)) return 0;
            return data.tables.get(table).values().stream().mapToInt(row -> row.value).sum();
        }
    }

    /** Makes up arguments: mostly good ones, from few keys so that rows meet, now and then a wrong one. */
    private static final class Maker {
        private static final int[] ODD = {-3, -2, -1, 2, 3, 4, 12, 19, 20, 21, 40, 59, 60,
            Integer.MIN_VALUE, Integer.MAX_VALUE};
        final Random random;
        final int tables;
        final int keys;

        Maker(int run) {
            random = new Random(run);
            tables = 1 + random.nextInt(3);
            int[] widths = {3, 6, 14, 20};
            keys = widths[random.nextInt(widths.length)];
        }

        int below(int bound) {
            return random.nextInt(60) == 0 ? ODD[random.nextInt(ODD.length)] : random.nextInt(bound);
        }

        int table() {
            return below(tables);
        }

        int key() {
            return below(keys);
        }

        int column() {
            return below(2);
        }

        int referenceOrNone() {
            return random.nextInt(5) == 0 ? -1 : key();
        }

        int number() {
            return random.nextInt(3) == 0 ? random.nextInt() : random.nextInt(50) - 25;
        }
    }

    private static final String[] NAMES = {"link", "insert", "remove", "rekey", "refer", "value", "begin",
        "mark", "back", "commit", "rollback", "rows", "keyAt", "reference", "valueOf", "referrers",
        "wouldGo", "dangling", "sum"};
    private static final int[] WEIGHTS = {2, 16, 6, 8, 24, 4, 4, 3, 3, 4, 1, 1, 2, 3, 2, 3, 4, 3, 2};

    private static int pick(Random random) {
        int total = 0;
        for (int weight : WEIGHTS) {
            total += weight;
        }
        int left = random.nextInt(total);
        int which = 0;
        while (left >= WEIGHTS[which]) {
            left -= WEIGHTS[which];
            which++;
        }
        return which;
    }

    private static int[] arguments(int which, Maker make) {
        switch (which) {
            case 0: return new int[] {make.table(), make.column(), make.table(), make.below(5) - 1};
            case 1: case 2: case 13: case 14: case 15: case 16:
                return new int[] {make.table(), make.key(), make.column()};
            case 3: return new int[] {make.table(), make.key(), make.key()};
            case 4: return new int[] {make.table(), make.key(), make.column(), make.referenceOrNone()};
            case 5: return new int[] {make.table(), make.key(), make.number()};
            case 12: return new int[] {make.table(), make.below(12)};
            default: return new int[] {make.table()};
        }
    }

    private static int ask(ReferenceTables x, int which, int[] a) {
        switch (which) {
            case 0: return x.link(a[0], a[1], a[2], a[3]);
            case 1: return x.insert(a[0], a[1]);
            case 2: return x.remove(a[0], a[1]);
            case 3: return x.rekey(a[0], a[1], a[2]);
            case 4: return x.refer(a[0], a[1], a[2], a[3]);
            case 5: return x.value(a[0], a[1], a[2]);
            case 6: return x.begin();
            case 7: return x.mark();
            case 8: return x.back();
            case 9: return x.commit();
            case 10: return x.rollback();
            case 11: return x.rows(a[0]);
            case 12: return x.keyAt(a[0], a[1]);
            case 13: return x.reference(a[0], a[1], a[2]);
            case 14: return x.valueOf(a[0], a[1]);
            case 15: return x.referrers(a[0], a[1]);
            case 16: return x.wouldGo(a[0], a[1]);
            case 17: return x.dangling();
            default: return x.sum(a[0]);
        }
    }

    private static int ask(Model x, int which, int[] a) {
        switch (which) {
            case 0: return x.link(a[0], a[1], a[2], a[3]);
            case 1: return x.insert(a[0], a[1]);
            case 2: return x.remove(a[0], a[1]);
            case 3: return x.rekey(a[0], a[1], a[2]);
            case 4: return x.refer(a[0], a[1], a[2], a[3]);
            case 5: return x.value(a[0], a[1], a[2]);
            case 6: return x.begin();
            case 7: return x.mark();
            case 8: return x.back();
            case 9: return x.commit();
            case 10: return x.rollback();
            case 11: return x.rows(a[0]);
            case 12: return x.keyAt(a[0], a[1]);
            case 13: return x.reference(a[0], a[1], a[2]);
            case 14: return x.valueOf(a[0], a[1]);
            case 15: return x.referrers(a[0], a[1]);
            case 16: return x.wouldGo(a[0], a[1]);
            case 17: return x.dangling();
            default: return x.sum(a[0]);
        }
    }

    /** Asks for every reference and value that there can be. */
    private static boolean sameRows(ReferenceTables x, Model model) {
        for (int table = 0; table < 3; table++) {
            for (int key = 0; key < 20; key++) {
                if (x.reference(table, key, 0) != model.reference(table, key, 0)
                    || x.reference(table, key, 1) != model.reference(table, key, 1)
                    || x.valueOf(table, key) != model.valueOf(table, key)) {
                    return false;
                }
            }
        }
        return true;
    }

    /** How often each call gave each kind of answer, to see that the runs reach them all. */
    private static final TreeMap<String, Integer> REACHED = new TreeMap<>();

    private static boolean runAgrees(int run) {
        Maker make = new Maker(run);
        ReferenceTables x = new ReferenceTables();
        Model model = new Model();
        // Runs of all lengths, so that the rows are looked at after calls of every kind.
        int calls = 1 + make.random.nextInt(MOST_CALLS);
        for (int call = 0; call < calls; call++) {
            // Half of the runs begin with links, as rows that refer stand in the way of later ones.
            int which = call < 8 && run % 2 == 0 ? 0 : pick(make.random);
            int[] a = arguments(which, make);
            int got = ask(x, which, a);
            int want = ask(model, which, a);
            String kind = NAMES[which] + " " + (want < 0 && which != 18 && which != 14 ? want : "done");
            REACHED.merge(kind, 1, Integer::sum);
            if (got != want) {
                System.out.println("run " + run + ", call " + call + ": " + NAMES[which]
                    + Arrays.toString(a) + " answered " + got + ", due is " + want);
                return false;
            }
        }
        if (!sameRows(x, model)) {
            System.out.println("run " + run + ": after " + calls + " calls the rows are not as due");
            return false;
        }
        return true;
    }

    private static final String[] TO_REACH = {
        "link done", "link -1", "link -2", "link -3", "link -4", "link -5",
        "insert done", "insert -1", "insert -2", "insert -3", "insert -4",
        "remove done", "remove -1", "remove -2", "remove -5", "remove -9",
        "rekey done", "rekey -1", "rekey -2", "rekey -3", "rekey -4", "rekey -5", "rekey -9",
        "refer done", "refer -1", "refer -2", "refer -3", "refer -4", "refer -9",
        "value done", "begin -1", "mark -2", "mark -1", "mark done", "back -1", "back done",
        "commit -1", "commit -9", "commit done", "rollback -1", "rollback done",
        "keyAt -2", "reference -4", "wouldGo -5", "wouldGo done", "referrers done", "dangling done"};

    public static void main(String[] args) {
        int wrong = 0;
        for (int run = 0; run < RUNS && wrong < 10; run++) {
            if (!runAgrees(run)) {
                wrong++;
            }
        }
        for (String kind : TO_REACH) {
            if (wrong == 0 && !REACHED.containsKey(kind)) {
                wrong++;
                System.out.println("no run reached: " + kind);
            }
        }
        if (args.length > 0) {
            System.out.println(REACHED);
        }
        System.out.println(wrong == 0 ? "all runs agree with the model" : "some runs do not agree");
        if (wrong != 0) {
            System.exit(1);
        }
    }
}
