/** Tables whose rows refer to one another, and transactions with checks at their end. */
public final class ReferenceTables {
    private static final int TABLES = 3;
    private static final int KEYS = 20;
    private static final int COLUMNS = 2;
    private static final int MOST_ROWS = 12;
    private static final int MOST_MARKS = 3;

    // A row lives in the slot that its table and its key name: a key is found
    // without a search, and slots in rising order are keys in rising order.
    private static final int SLOTS = TABLES * KEYS;
    // A cell is the place of one reference, a link the one of a table's column.
    private static final int CELLS = SLOTS * COLUMNS;
    private static final int LINKS = TABLES * COLUMNS;

    private static final int NONE = -1;

    private static final int RULE_STAYS = 0;
    private static final int RULE_FOLLOWS = 1;
    private static final int RULE_LETS_GO = 2;
    private static final int RULE_AT_END = 3;

    // Kept states: 0 from the transaction's begin, 1 to 3 from its marks, and
    // one from before a statement, for a statement that turns out to be refused.
    private static final int STATE_AT_BEGIN = 0;
    private static final int STATE_BEFORE_STATEMENT = MOST_MARKS + 1;
    private static final int STATES = MOST_MARKS + 2;
    private static final int KEPT_SLOTS = STATES * SLOTS;
    private static final int KEPT_CELLS = STATES * CELLS;

    private static final int BAD_LINKS = -9;

    private final boolean[] taken = new boolean[SLOTS];
    private final int[] values = new int[SLOTS];
    private final int[] references = new int[CELLS];

    private final int[] linkedTo = new int[LINKS];
    private final int[] rules = new int[LINKS];

    private final boolean[] keptTaken = new boolean[KEPT_SLOTS];
    private final int[] keptValues = new int[KEPT_SLOTS];
    private final int[] keptReferences = new int[KEPT_CELLS];

    private boolean open = false;
    private int marks = 0;
    // Sets of links, a bit for each.
    private int soundAtBegin = 0;
    private int soundBeforeStatement = 0;

    public ReferenceTables() {
        for (int link = 0; link < LINKS; link++) {
            rules[link] = NONE;
        }
    }

    public int link(int table, int column, int to, int rule) {
        if (!isTable(table)) {
            return -1;
        }
        if (rule != NONE && !isTable(to)) {
            return -1;
        }
        if (!isColumn(column)) {
            return -2;
        }
        if (rule < NONE || rule > RULE_AT_END) {
            return -3;
        }
        if (open) {
            return -4;
        }
        if (isColumnUsed(table, column)) {
            return -5;
        }
        int link = table * COLUMNS + column;
        int oldRule = rules[link];
        rules[link] = rule;
        linkedTo[link] = rule == NONE ? 0 : to;
        return oldRule;
    }

    public int insert(int table, int key) {
        if (!isTable(table)) {
            return -1;
        }
        if (!isKey(key)) {
            return -2;
        }
        if (hasRow(table, key)) {
            return -3;
        }
        int count = countRows(table);
        if (count >= MOST_ROWS) {
            return -4;
        }
        // Links are not looked at: a row more, without references, can't make
        // a sound link unsound.
        int slot = table * KEYS + key;
        taken[slot] = true;
        values[slot] = 0;
        for (int column = 0; column < COLUMNS; column++) {
            references[slot * COLUMNS + column] = NONE;
        }
        return count + 1;
    }

    public int remove(int table, int key) {
        if (!isTable(table)) {
            return -1;
        }
        if (!hasRow(table, key)) {
            return -2;
        }
        long going = goingWith(table * KEYS + key);
        if (isHeldBack(going)) {
            return -5;
        }
        startStatement();
        letGoOf(going);
        int gone = takeOut(going);
        return endStatement(gone);
    }

    public int rekey(int table, int key, int newKey) {
        if (!isTable(table)) {
            return -1;
        }
        if (!hasRow(table, key)) {
            return -2;
        }
        if (!isKey(newKey)) {
            return -3;
        }
        if (hasRow(table, newKey)) {
            return -4;
        }
        int slot = table * KEYS + key;
        if (mustKeepKey(slot)) {
            return -5;
        }
        startStatement();
        // References first: they are found by the slot that the row still has,
        // and the row's own move with it.
        int changed = changeReferences(slot, newKey);
        moveRow(slot, table * KEYS + newKey);
        return endStatement(changed);
    }

    public int refer(int table, int key, int column, int reference) {
        if (!isTable(table)) {
            return -1;
        }
        if (!hasRow(table, key)) {
            return -2;
        }
        if (!isColumn(column)) {
            return -3;
        }
        if (reference != NONE && !isKey(reference)) {
            return -4;
        }
        int cell = (table * KEYS + key) * COLUMNS + column;
        int oldReference = references[cell];
        startStatement();
        references[cell] = reference;
        return endStatement(oldReference);
    }

    public int value(int table, int key, int value) {
        if (!isTable(table)) {
            return -1;
        }
        if (!hasRow(table, key)) {
            return -2;
        }
        values[table * KEYS + key] = value;
        return 1;
    }

    public int begin() {
        if (open) {
            return -1;
        }
        open = true;
        marks = 0;
        soundAtBegin = soundLinks();
        keepState(STATE_AT_BEGIN);
        return 1;
    }

    public int mark() {
        if (!open) {
            return -1;
        }
        if (marks >= MOST_MARKS) {
            return -2;
        }
        marks++;
        keepState(STATE_AT_BEGIN + marks);
        return marks;
    }

    public int back() {
        if (!open) {
            return -1;
        }
        restoreState(STATE_AT_BEGIN + marks);
        if (marks > 0) {
            marks--;
        }
        return marks;
    }

    public int commit() {
        if (!open) {
            return -1;
        }
        // Links with other rules than 3 need no look: each statement kept them sound.
        int broken = soundAtBegin & ~soundLinks();
        if ((broken & linksCheckedAtEnd()) != 0) {
            return BAD_LINKS;
        }
        open = false;
        return 1;
    }

    public int rollback() {
        if (!open) {
            return -1;
        }
        restoreState(STATE_AT_BEGIN);
        open = false;
        return 1;
    }

    public int rows(int table) {
        if (!isTable(table)) {
            return -1;
        }
        return countRows(table);
    }

    public int keyAt(int table, int k) {
        if (!isTable(table)) {
            return -1;
        }
        int before = 0;
        for (int key = 0; key < KEYS; key++) {
            if (taken[table * KEYS + key]) {
                if (before == k) {
                    return key;
                }
                before++;
            }
        }
        return -2;
    }

    public int reference(int table, int key, int column) {
        if (!isTable(table)) {
            return -2;
        }
        if (!hasRow(table, key)) {
            return -3;
        }
        if (!isColumn(column)) {
            return -4;
        }
        return references[(table * KEYS + key) * COLUMNS + column];
    }

    public int valueOf(int table, int key) {
        if (!isTable(table)) {
            return 0;
        }
        if (!hasRow(table, key)) {
            return 0;
        }
        return values[table * KEYS + key];
    }

    public int referrers(int table, int key) {
        if (!isTable(table)) {
            return -1;
        }
        if (!hasRow(table, key)) {
            return -2;
        }
        int slot = table * KEYS + key;
        int count = 0;
        for (int cell = 0; cell < CELLS; cell++) {
            if (targetOf(cell) == slot) {
                count++;
            }
        }
        return count;
    }

    public int wouldGo(int table, int key) {
        if (!isTable(table)) {
            return -1;
        }
        if (!hasRow(table, key)) {
            return -2;
        }
        long going = goingWith(table * KEYS + key);
        if (isHeldBack(going)) {
            return -5;
        }
        int count = 0;
        for (int slot = 0; slot < SLOTS; slot++) {
            if (isIn(going, slot)) {
                count++;
            }
        }
        return count;
    }

    public int dangling() {
        int count = 0;
        for (int cell = 0; cell < CELLS; cell++) {
            if (isDangling(cell)) {
                count++;
            }
        }
        return count;
    }

    public int sum(int table) {
        if (!isTable(table)) {
            return 0;
        }
        int total = 0;
        for (int slot = table * KEYS; slot < (table + 1) * KEYS; slot++) {
            if (taken[slot]) {
                total += values[slot];
            }
        }
        return total;
    }

    private static boolean isTable(int table) {
        return table >= 0 && table < TABLES;
    }

    private static boolean isColumn(int column) {
        return column >= 0 && column < COLUMNS;
    }

    private static boolean isKey(int key) {
        return key >= 0 && key < KEYS;
    }

    private boolean hasRow(int table, int key) {
        return isKey(key) && taken[table * KEYS + key];
    }

    private int countRows(int table) {
        int count = 0;
        for (int slot = table * KEYS; slot < (table + 1) * KEYS; slot++) {
            if (taken[slot]) {
                count++;
            }
        }
        return count;
    }

    private boolean isColumnUsed(int table, int column) {
        for (int slot = table * KEYS; slot < (table + 1) * KEYS; slot++) {
            if (taken[slot] && references[slot * COLUMNS + column] != NONE) {
                return true;
            }
        }
        return false;
    }

    private static int linkOf(int cell) {
        int table = cell / (KEYS * COLUMNS);
        return table * COLUMNS + cell % COLUMNS;
    }

    private int ruleOf(int cell) {
        return rules[linkOf(cell)];
    }

    /** The slot that a cell's reference names by its link, whether a row is there or not; or NONE. */
    private int targetOf(int cell) {
        int link = linkOf(cell);
        if (!taken[cell / COLUMNS] || rules[link] == NONE || references[cell] == NONE) {
            return NONE;
        }
        return linkedTo[link] * KEYS + references[cell];
    }

    private boolean isDangling(int cell) {
        int target = targetOf(cell);
        return target != NONE && !taken[target];
    }

    // Sets of slots are the bits of a long, as there are fewer than 64.
    private static boolean isIn(long set, int slot) {
        return slot >= 0 && ((set >>> slot) & 1L) != 0;
    }

    private long goingWith(int slot) {
        long going = 1L << slot;
        // Each pass but the last adds a row, so there are never more passes than slots.
        for (int pass = 0; pass < SLOTS; pass++) {
            long more = withFollowers(going);
            if (more == going) {
                break;
            }
            going = more;
        }
        return going;
    }

    private long withFollowers(long going) {
        long more = going;
        for (int cell = 0; cell < CELLS; cell++) {
            int target = targetOf(cell);
            if (isIn(going, target) && ruleOf(cell) == RULE_FOLLOWS) {
                more |= 1L << (cell / COLUMNS);
            }
        }
        return more;
    }

    private boolean isHeldBack(long going) {
        for (int cell = 0; cell < CELLS; cell++) {
            int target = targetOf(cell);
            boolean stays = !isIn(going, cell / COLUMNS);
            if (stays && isIn(going, target) && ruleOf(cell) == RULE_STAYS) {
                return true;
            }
        }
        return false;
    }

    private void letGoOf(long going) {
        for (int cell = 0; cell < CELLS; cell++) {
            int target = targetOf(cell);
            if (isIn(going, target) && ruleOf(cell) == RULE_LETS_GO) {
                references[cell] = NONE;
            }
        }
    }

    private int takeOut(long going) {
        int count = 0;
        for (int slot = 0; slot < SLOTS; slot++) {
            if (isIn(going, slot)) {
                taken[slot] = false;
                count++;
            }
        }
        return count;
    }

    private boolean mustKeepKey(int slot) {
        for (int cell = 0; cell < CELLS; cell++) {
            if (targetOf(cell) == slot && ruleOf(cell) == RULE_STAYS) {
                return true;
            }
        }
        return false;
    }

    private int changeReferences(int slot, int newKey) {
        int changed = 0;
        for (int cell = 0; cell < CELLS; cell++) {
            if (targetOf(cell) == slot) {
                int rule = ruleOf(cell);
                if (rule == RULE_FOLLOWS) {
                    references[cell] = newKey;
                    changed++;
                } else if (rule == RULE_LETS_GO) {
                    references[cell] = NONE;
                    changed++;
                }
            }
        }
        return changed;
    }

    private void moveRow(int from, int to) {
        taken[from] = false;
        taken[to] = true;
        values[to] = values[from];
        for (int column = 0; column < COLUMNS; column++) {
            references[to * COLUMNS + column] = references[from * COLUMNS + column];
        }
    }

    private void startStatement() {
        soundBeforeStatement = soundLinks();
        keepState(STATE_BEFORE_STATEMENT);
    }

    /** Answers what the statement would, or undoes it if it broke a link. */
    private int endStatement(int answer) {
        int broken = soundBeforeStatement & ~soundLinks();
        if (open) {
            broken &= ~linksCheckedAtEnd();
        }
        if (broken != 0) {
            restoreState(STATE_BEFORE_STATEMENT);
            return BAD_LINKS;
        }
        return answer;
    }

    private int soundLinks() {
        int sound = (1 << LINKS) - 1;
        for (int cell = 0; cell < CELLS; cell++) {
            if (isDangling(cell)) {
                sound &= ~(1 << linkOf(cell));
            }
        }
        return sound;
    }

    private int linksCheckedAtEnd() {
        int links = 0;
        for (int link = 0; link < LINKS; link++) {
            if (rules[link] == RULE_AT_END) {
                links |= 1 << link;
            }
        }
        return links;
    }

    private void keepState(int state) {
        for (int slot = 0; slot < SLOTS; slot++) {
            keptTaken[state * SLOTS + slot] = taken[slot];
            keptValues[state * SLOTS + slot] = values[slot];
        }
        for (int cell = 0; cell < CELLS; cell++) {
            keptReferences[state * CELLS + cell] = references[cell];
        }
    }

    private void restoreState(int state) {
        for (int slot = 0; slot < SLOTS; slot++) {
            taken[slot] = keptTaken[state * SLOTS + slot];
            values[slot] = keptValues[state * SLOTS + slot];
        }
        for (int cell = 0; cell < CELLS; cell++) {
            references[cell] = keptReferences[state * CELLS + cell];
        }
    }
}
