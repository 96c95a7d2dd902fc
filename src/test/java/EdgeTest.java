/** The promises of the document: a test for each sentence that names a boundary case. */
public final class EdgeTest {
    private static final int MIN = Integer.MIN_VALUE;
    private static final int MAX = Integer.MAX_VALUE;

    private static void newObject() {
        Script.holds("Promise 1: No rows",
            Script.each("rows ? = 0; keyAt ? 0 = -2; sum ? = 0; remove ? 0 ! -2; valueOf ? 0 = 0", 0, 1, 2),
            "dangling = 0");
        Script.holds("Promise 1: no links",
            Script.each("link ? 0 0 -1 = -1; link ? 1 0 -1 = -1", 0, 1, 2));
        Script.holds("Promise 1: no links, so that a reference may be any number",
            Script.each("insert ? 0 = 1; refer ? 0 0 19 = -1; refer ? 0 1 0 = -1; referrers ? 0 = 0", 0, 1, 2),
            "dangling = 0");
        Script.holds("Promise 1: no transaction", "mark ! -1; back ! -1; commit ! -1; rollback ! -1; begin = 1");
    }

    private static void link() {
        for (int table = 0; table < 3; table++) {
            for (int column = 0; column < 2; column++) {
                String place = "link " + table + " " + column + " ";
                Script.holds("Promise 2: answers the rule that the column had, -1 if it had no link",
                    place + "0 0 = -1;" + place + "0 1 = 0;" + place + "0 2 = 1;" + place + "0 3 = 2",
                    place + "0 3 = 3;" + place + "0 0 = 3;" + place + "0 -1 = 0;" + place + "0 -1 = -1");
            }
        }
        Script.holds("Promise 2: Links a column to a table: only this column of this table",
            "link 1 0 2 3 = -1; link 1 1 2 -1 = -1; link 0 0 2 -1 = -1; link 2 0 2 -1 = -1; link 1 0 2 -1 = 3");
        Script.holds("Promise 2: also in place of a link that it has: the rows of the new table count",
            "link 0 0 1 0 = -1", Script.rows(0, 1), Script.rows(1, 2), Script.rows(2, 3),
            "refer 0 1 0 3 ! -9; link 0 0 2 0 = 0; refer 0 1 0 2 ! -9; refer 0 1 0 3 = -1; remove 1 2 = 1",
            "remove 2 3 ! -5");
        Script.holds("Promise 2: also in place of a link that it has: the new rule holds",
            "link 0 0 1 0 = -1", Script.rows(0, 1), Script.rows(1, 2),
            "refer 0 1 0 2 = -1; refer 0 1 0 -1 = 2; link 0 0 1 2 = 0; refer 0 1 0 2 = -1; remove 1 2 = 1",
            "reference 0 1 0 = -1");
        Script.holds("Promise 2: or takes its link away (rule -1)",
            "link 0 0 1 0 = -1", Script.rows(0, 1), Script.rows(1, 2),
            "refer 0 1 0 9 ! -9; link 0 0 1 -1 = 0; refer 0 1 0 9 = -1; dangling = 0; refer 0 1 0 2 = 9",
            "referrers 1 2 = 0; remove 1 2 = 1");
        Script.holds("Promise 2: 'to' is not looked at then",
            Script.each("link 0 0 2 3 = -1; link 0 0 ? -1 = 3; link 0 0 ? -1 = -1", -1, 0, 2, 3, MIN, MAX));
        Script.holds("Promise 2: table is not 0 to 2: -1",
            Script.each("link ? 0 0 0 ! -1; link ? 1 2 3 ! -1; link ? 0 0 -1 ! -1", -1, 3, MIN, MAX),
            Script.each("link ? 0 0 0 = -1", 0, 1, 2));
        Script.holds("Promise 2: or 'to' (if looked at), is not 0 to 2: -1",
            Script.each("link 0 0 ? 0 ! -1; link 0 0 ? 1 ! -1; link 0 0 ? 2 ! -1; link 0 0 ? 3 ! -1", -1, 3, MIN, MAX),
            "link 0 0 0 0 = -1; link 0 0 1 0 = 0; link 0 0 2 0 = 0");
        Script.holds("Promise 2: column is not 0 or 1: -2",
            Script.each("link 0 ? 0 0 ! -2; link 0 ? 0 -1 ! -2; link 2 ? 0 3 ! -2", -1, 2, MIN, MAX));
        Script.holds("Promise 2: rule is not -1 to 3: -3", Script.each("link 0 0 0 ? ! -3", -2, 4, MIN, MAX));
        Script.holds("Promise 2: a transaction is open: -4",
            "begin = 1; link 0 0 0 0 ! -4; link 0 0 0 -1 ! -4; commit = 1; link 0 0 0 1 = -1",
            "begin = 1; link 0 0 0 2 ! -4; rollback = 1; link 0 0 0 2 = 1");
        for (int table = 0; table < 3; table++) {
            for (int column = 0; column < 2; column++) {
                usedColumn(table, column);
            }
        }
    }

    private static void usedColumn(int table, int column) {
        String at = table + " " + column;
        String other = table + " " + (1 - column);
        String elsewhere = (table + 1) % 3 + " " + column;
        Script.holds("Promise 2: a row of the table has a reference other than -1 there: -5",
            Script.rows(table, 0, 19), "refer " + table + " 19 " + column + " 0 = -1",
            "link " + at + " 0 0 ! -5; link " + at + " 0 -1 ! -5",
            "link " + other + " 0 3 = -1; link " + elsewhere + " 0 2 = -1",
            "refer " + table + " 19 " + column + " -1 = 0; link " + at + " 0 1 = -1",
            "remove " + table + " 0 = 1; remove " + table + " 19 = 1; link " + at + " 1 2 = 1");
        Script.holds("Promise 2: a row of the table has a reference other than -1 there: one that went is no matter",
            Script.rows(table, 5), "refer " + table + " 5 " + column + " 19 = -1; link " + at + " 0 0 ! -5",
            "remove " + table + " 5 = 1; link " + at + " 0 0 = -1");
        Script.holds("Promise 2: a row of the table has a reference other than -1 there: one with another key now",
            Script.rows(table, 5), "refer " + table + " 5 " + column + " 19 = -1; rekey " + table + " 5 6 = 0",
            "link " + at + " 0 0 ! -5; refer " + table + " 6 " + column + " -1 = 19; link " + at + " 0 0 = -1");
    }

    private static void insert() {
        Script.holds("Promise 3: Puts a row with references -1 and value 0 into a table",
            "insert 0 4 = 1; reference 0 4 0 = -1; reference 0 4 1 = -1; valueOf 0 4 = 0");
        Script.holds("Promise 3: a row with references -1 and value 0: where another one went",
            "insert 0 4 = 1; refer 0 4 0 5 = -1; refer 0 4 1 6 = -1; value 0 4 7 = 1; remove 0 4 = 1",
            "insert 0 4 = 1; reference 0 4 0 = -1; reference 0 4 1 = -1; valueOf 0 4 = 0");
        Script.holds("Promise 3: a row with references -1 and value 0: where another one got another key",
            "insert 0 4 = 1; refer 0 4 0 5 = -1; refer 0 4 1 6 = -1; value 0 4 7 = 1; rekey 0 4 3 = 0",
            "insert 0 4 = 2; reference 0 4 0 = -1; reference 0 4 1 = -1; valueOf 0 4 = 0");
        Script.holds("Promise 3: a row with references -1 and value 0: where one was before the transaction went back",
            "begin = 1; insert 0 4 = 1; refer 0 4 0 5 = -1; refer 0 4 1 6 = -1; value 0 4 7 = 1; back = 0",
            "insert 0 4 = 1; reference 0 4 0 = -1; reference 0 4 1 = -1; valueOf 0 4 = 0");
        Script.holds("Promise 3: Table: -1", Script.each("insert ? 0 ! -1; insert ? 19 ! -1", -1, 3, MIN, MAX));
        Script.holds("Promise 3: key is not 0 to 19: -2",
            Script.each("insert 0 ? ! -2; insert 1 ? ! -2; insert 2 ? ! -2", -1, 20, 21, -20, 59, MIN, MAX),
            "insert 0 0 = 1; insert 0 19 = 2");
        Script.holds("Promise 3: the table has a row with it: -3",
            "insert 0 0 = 1; insert 0 0 ! -3; insert 1 0 = 1; insert 1 0 ! -3; insert 2 19 = 1; insert 2 19 ! -3",
            "insert 0 19 = 2");
        Script.holds("Promise 3: it has 12 rows: -4",
            Script.rows(2, 19, 17, 15, 13, 11, 9, 7, 5, 3, 1, 0, 2),
            Script.each("insert 2 ? ! -4", 4, 6, 8, 10, 12, 14, 16, 18),
            "insert 1 4 = 1; remove 2 19 = 1; insert 2 4 = 12; insert 2 19 ! -4");
        Script.holds("Promise 3: Else answers how many rows it has",
            Script.rows(0, 7, 3, 9, 0, 19, 12, 1, 18, 4, 5, 6, 8),
            "rows 0 = 12; insert 1 7 = 1; insert 2 7 = 1; insert 1 8 = 2");
    }

    private static void remove() {
        Script.holds("Promise 4: Table: -1", "insert 0 0 = 1", Script.each("remove ? 0 ! -1", -1, 3, MIN, MAX));
        Script.holds("Promise 4: it has no row with this key: -2",
            Script.rows(1, 0, 19), Script.rows(0, 5), Script.rows(2, 5),
            Script.each("remove 1 ? ! -2", -1, 1, 5, 18, 20, -15, 25, MIN, MAX),
            "remove 1 19 = 1; remove 1 19 ! -2; remove 1 0 = 1; remove 1 0 ! -2; remove 0 19 ! -2");
        Script.holds("Promise 4: refused by a rule 0: -5",
            "link 2 1 0 0 = -1", Script.rows(0, 0, 19), Script.rows(2, 0),
            "refer 2 0 1 19 = -1; remove 0 19 ! -5; remove 0 0 = 1; remove 2 0 = 1; remove 0 19 = 1");
        Script.holds("Promise 4: links: -9",
            "link 2 1 0 3 = -1", Script.rows(0, 0, 19), Script.rows(2, 0),
            "refer 2 0 1 19 = -1; remove 0 19 ! -9; remove 0 0 = 1; remove 2 0 = 1; remove 0 19 = 1");
        Script.holds("Promise 4: Else answers how many rows went: one",
            Script.rows(0, 0, 19), "remove 0 0 = 1; remove 0 19 = 1; rows 0 = 0");
        Script.holds("Promise 4: Else answers how many rows went: those that let go are none",
            "link 1 0 0 1 = -1; link 1 1 0 2 = -1", Script.rows(0, 1), Script.rows(1, 1, 2, 3),
            "refer 1 1 0 1 = -1; refer 1 2 1 1 = -1; refer 1 3 0 1 = -1; remove 0 1 = 3; rows 1 = 1");
        Script.answers("Promise 4: Else answers how many rows went: all 36",
            "link 0 0 0 1 = -1; link 1 0 0 1 = -1; link 2 1 1 1 = -1",
            Script.rows(0, Script.from(0, 11)), Script.rows(1, Script.from(0, 11)), Script.rows(2, Script.from(0, 11)),
            Script.each("refer 0 ? 0 11 = -1; refer 1 ? 0 ? = -1; refer 2 ? 1 ? = -1", Script.from(0, 11)),
            "wouldGo 0 0 = 3; wouldGo 0 11 = 36; remove 0 11 = 36; rows 0 = 0; rows 1 = 0; rows 2 = 0; dangling = 0");
    }

    private static void rekey() {
        Script.holds("Promise 5: Table: -1", "insert 0 0 = 1", Script.each("rekey ? 0 1 ! -1", -1, 3, MIN, MAX));
        Script.holds("Promise 5: it has no row with this key: -2",
            Script.rows(1, 0, 19), Script.rows(0, 5), Script.rows(2, 5),
            Script.each("rekey 1 ? 7 ! -2", -1, 1, 5, 18, 20, -15, 25, MIN, MAX), "rekey 1 0 7 = 0; rekey 1 0 8 ! -2");
        Script.holds("Promise 5: newKey is not 0 to 19: -3",
            Script.rows(1, 5), Script.each("rekey 1 5 ? ! -3", -1, 20, -20, 40, MIN, MAX),
            "rekey 1 5 0 = 0; rekey 1 0 19 = 0; keyAt 1 0 = 19");
        Script.holds("Promise 5: the table has a row with it: -4",
            Script.rows(1, 0, 5, 19), Script.rows(0, 6),
            "rekey 1 5 0 ! -4; rekey 1 5 19 ! -4; rekey 1 5 6 = 0; rekey 1 6 5 = 0");
        Script.holds("Promise 5: the table has a row with it: its own key",
            Script.rows(1, 0, 5), "rekey 1 0 0 ! -4; rekey 1 5 5 ! -4; begin = 1; rekey 1 5 5 ! -4; rows 1 = 2");
        Script.holds("Promise 5: refused by a rule 0: -5",
            "link 2 0 1 0 = -1", Script.rows(1, 0, 5), Script.rows(2, 5),
            "refer 2 5 0 5 = -1; rekey 1 5 6 ! -5; rekey 1 0 6 = 0; rekey 2 5 6 = 0; rekey 1 5 7 ! -5");
        Script.holds("Promise 5: links: -9",
            "link 2 0 1 3 = -1", Script.rows(1, 0, 5), Script.rows(2, 5),
            "refer 2 5 0 5 = -1; rekey 1 5 6 ! -9; rekey 1 0 6 = 0; rekey 2 5 6 = 0; rekey 1 5 7 ! -9");
        Script.holds("Promise 5: Else answers how many references became another number: none",
            "link 0 0 0 1 = -1; link 2 0 1 1 = -1", Script.rows(0, 4), Script.rows(1, 4), Script.rows(2, 4),
            "refer 2 4 0 4 = -1; refer 1 4 0 4 = -1; refer 1 4 1 4 = -1; rekey 0 4 5 = 0");
        Script.holds("Promise 5: how many references became another number: by rules 1 and 2, not by 3",
            "link 1 0 0 1 = -1; link 1 1 0 2 = -1; link 2 0 0 3 = -1", Script.rows(0, 4), Script.rows(1, 6, 7),
            Script.rows(2, 8),
            "refer 1 6 0 4 = -1; refer 1 6 1 4 = -1; refer 1 7 1 4 = -1; refer 2 8 0 4 = -1; begin = 1",
            "rekey 0 4 5 = 3",
            "reference 1 6 0 = 5; reference 1 6 1 = -1; reference 1 7 1 = -1; reference 2 8 0 = 4");
        Script.answers("Promise 5: how many references became another number: all 72 that there can be",
            Script.each("link ? 0 0 1 = -1; link ? 1 0 2 = -1", 0, 1, 2), Script.rows(0, Script.from(0, 11)),
            Script.rows(1, Script.from(0, 11)), Script.rows(2, Script.from(0, 11)),
            Script.each("refer 0 ? 0 3 = -1; refer 0 ? 1 3 = -1; refer 1 ? 0 3 = -1; refer 1 ? 1 3 = -1",
                Script.from(0, 11)),
            Script.each("refer 2 ? 0 3 = -1; refer 2 ? 1 3 = -1", Script.from(0, 11)),
            "rekey 0 3 19 = 72; referrers 0 19 = 36; reference 0 19 0 = 19; reference 0 19 1 = -1",
            Script.each("reference 1 ? 0 = 19; reference 2 ? 0 = 19; reference 1 ? 1 = -1; reference 2 ? 1 = -1",
                Script.from(0, 11)));
    }

    private static void refer() {
        Script.holds("Promise 6: Table: -1",
            "insert 0 0 = 1", Script.each("refer ? 0 0 5 ! -1; refer ? 0 0 -1 ! -1", -1, 3, MIN, MAX));
        Script.holds("Promise 6: it has no row with this key: -2",
            Script.rows(1, 0, 19), Script.rows(0, 5), Script.rows(2, 5),
            Script.each("refer 1 ? 0 7 ! -2; refer 1 ? 1 -1 ! -2", -1, 1, 5, 18, 20, -15, 25, MIN, MAX));
        Script.holds("Promise 6: column is not 0 or 1: -3",
            Script.rows(1, 5), Script.each("refer 1 5 ? 7 ! -3; refer 1 5 ? -1 ! -3", -1, 2, 3, MIN, MAX));
        Script.holds("Promise 6: reference is not -1 to 19: -4",
            Script.rows(1, 5), Script.each("refer 1 5 0 ? ! -4; refer 1 5 1 ? ! -4", -2, 20, 21, MIN, MAX),
            "refer 1 5 0 0 = -1; refer 1 5 0 19 = 0; refer 1 5 0 -1 = 19");
        for (int rule = 0; rule < 4; rule++) {
            Script.holds("Promise 6: links: -9",
                "link 1 1 2 " + rule + " = -1", Script.rows(1, 5), Script.rows(2, 0, 19),
                "refer 1 5 1 5 ! -9; refer 1 5 1 0 = -1; refer 1 5 1 18 ! -9; refer 1 5 1 19 = 0",
                "refer 1 5 1 1 ! -9; refer 1 5 1 -1 = 19");
        }
        Script.holds("Promise 6: Else answers the reference that it had",
            Script.rows(0, 5),
            "refer 0 5 0 -1 = -1; refer 0 5 0 0 = -1; refer 0 5 0 0 = 0; refer 0 5 0 19 = 0; refer 0 5 0 -1 = 19",
            "refer 0 5 1 3 = -1; refer 0 5 0 -1 = -1; refer 0 5 1 4 = 3");
        Script.holds("Promise 6: Else answers the reference that it had: also one that is no key of a row",
            "link 0 0 0 3 = -1", Script.rows(0, 5),
            "begin = 1; refer 0 5 0 9 = -1; refer 0 5 0 8 = 9; refer 0 5 0 5 = 8; commit = 1");
    }

    private static void value() {
        Script.holds("Promise 7: Table: -1", "insert 0 0 = 1", Script.each("value ? 0 5 ! -1", -1, 3, MIN, MAX));
        Script.holds("Promise 7: it has no row with this key: -2",
            Script.rows(1, 0, 19), Script.rows(0, 5), Script.rows(2, 5),
            Script.each("value 1 ? 7 ! -2", -1, 1, 5, 18, 20, -15, 25, MIN, MAX));
        Script.holds("Promise 7: Gives a row another value. Else answers 1",
            Script.rows(1, 0, 19), Script.rows(0, 0), Script.rows(2, 19),
            Script.each("value 1 0 ? = 1; valueOf 1 0 = ?; valueOf 1 19 = 0; valueOf 0 0 = 0; valueOf 2 19 = 0",
                -1, -2, 0, MIN, MAX),
            "value 1 0 5 = 1; value 1 0 5 = 1; value 1 19 6 = 1; valueOf 1 0 = 5");
    }

    private static void begin() {
        Script.holds("Promise 8: One is open: -1",
            "begin = 1; begin ! -1; insert 0 1 = 1; mark = 1; begin ! -1; back = 0; begin ! -1; back = 0",
            "begin ! -1; rows 0 = 0");
        Script.holds("Promise 8: One is open: -1: also after a commit that was refused",
            "link 0 0 0 3 = -1; insert 0 1 = 1; begin = 1; refer 0 1 0 2 = -1; commit ! -9; begin ! -1",
            "rollback = 1; begin = 1");
        Script.holds("Promise 8: Else 1: again and again",
            "begin = 1; commit = 1; begin = 1; rollback = 1; begin = 1; mark = 1; commit = 1; begin = 1; mark = 1",
            "rollback = 1; begin = 1");
    }

    private static void mark() {
        Script.holds("Promise 9: None is open: -1",
            "mark ! -1; begin = 1; mark = 1; commit = 1; mark ! -1; begin = 1; rollback = 1; mark ! -1");
        Script.holds("Promise 9: three states are kept in it by mark: -2",
            "begin = 1; mark = 1; insert 0 1 = 1; mark = 2; insert 0 2 = 2; mark = 3; insert 0 3 = 3; mark ! -2",
            "mark ! -2",
            "back = 2; rows 0 = 2; mark = 3; mark ! -2; back = 2; back = 1; back = 0; rows 0 = 0; mark = 1");
        Script.holds("Promise 9: Else answers how many are kept then: those of this transaction",
            "begin = 1; mark = 1; mark = 2; commit = 1; begin = 1; mark = 1; mark = 2; mark = 3; rollback = 1",
            "begin = 1; mark = 1");
        Script.holds("Promise 9: Keeps, in a transaction, all as it is now",
            "link 0 0 1 3 = -1", Script.rows(0, 0, 19), Script.rows(1, 0), Script.rows(2, 19),
            "begin = 1; value 0 19 min = 1; refer 0 0 0 9 = -1; refer 0 0 1 8 = -1; rekey 2 19 0 = 0; mark = 1",
            "value 0 19 5 = 1; refer 0 0 0 0 = 9; refer 0 0 1 -1 = 8; rekey 2 0 19 = 0; remove 1 0 = 1",
            "insert 2 5 = 2; back = 0",
            "valueOf 0 19 = min; reference 0 0 0 = 9; reference 0 0 1 = 8; keyAt 2 0 = 0; rows 1 = 1; rows 2 = 1",
            "dangling = 1; sum 0 = min");
    }

    private static void back() {
        Script.holds("Promise 10: None is open: -1",
            "insert 0 1 = 1; back ! -1; begin = 1; insert 0 2 = 2; commit = 1; back ! -1; begin = 1; mark = 1",
            "rollback = 1; back ! -1; rows 0 = 2");
        Script.holds("Promise 10: when it was last kept by mark in this transaction",
            "begin = 1; insert 0 1 = 1; mark = 1; insert 0 2 = 2; mark = 2; insert 0 3 = 3; mark = 3; insert 0 4 = 4",
            "back = 2; rows 0 = 3; insert 0 5 = 4; back = 1; rows 0 = 2; insert 0 6 = 3; back = 0; rows 0 = 1");
        Script.holds("Promise 10: when it was last kept by mark: whatever statements came between, refused ones too",
            "link 0 0 0 0 = -1; insert 0 1 = 1; begin = 1; value 0 1 1 = 1; mark = 1; value 0 1 2 = 1; mark = 2",
            "value 0 1 3 = 1; mark = 3; value 0 1 4 = 1; refer 0 1 1 4 = -1; refer 0 1 0 9 ! -9; rekey 0 1 7 = 0",
            "refer 0 7 0 9 ! -9; remove 0 7 = 1; back = 2; valueOf 0 1 = 3; reference 0 1 1 = -1; rows 0 = 1",
            "value 0 1 5 = 1; refer 0 1 0 9 ! -9; rekey 0 1 8 = 0; back = 1; valueOf 0 1 = 2; refer 0 1 0 9 ! -9",
            "rekey 0 1 8 = 0; refer 0 8 1 2 = -1; back = 0; valueOf 0 1 = 1; remove 0 1 = 1",
            "back = 0; valueOf 0 1 = 0");
        Script.holds("Promise 10: or when the transaction began, if it was not",
            "insert 0 1 = 1; begin = 1; insert 0 2 = 2; value 0 1 5 = 1; back = 0; rows 0 = 1; valueOf 0 1 = 0",
            "begin ! -1");
        Script.holds("Promise 10: (or all that was kept has been gone back to)",
            "insert 0 1 = 1; begin = 1; insert 0 2 = 2; mark = 1; insert 0 3 = 3; back = 0; rows 0 = 2; back = 0",
            "rows 0 = 1", "insert 0 4 = 2; back = 0; rows 0 = 1; keyAt 0 0 = 1; begin ! -1");
        Script.holds("Promise 10: what was gone back to is no longer kept",
            "begin = 1; mark = 1; insert 0 1 = 1; mark = 2; insert 0 2 = 2; back = 1; rows 0 = 1; back = 0",
            "rows 0 = 0; mark = 1; mark = 2; mark = 3; mark ! -2");
        Script.holds("Promise 10: what was gone back to is no longer kept: a mark in its place keeps what is now",
            "begin = 1; mark = 1; insert 0 1 = 1; back = 0; insert 0 2 = 1; mark = 1; insert 0 3 = 2; back = 0",
            "keyAt 0 0 = 2; rows 0 = 1; back = 0; rows 0 = 0");
        Script.holds("Promise 10: in this transaction: marks of one before are no matter",
            "begin = 1; insert 0 1 = 1; mark = 1; insert 0 2 = 2; mark = 2; commit = 1; begin = 1; insert 0 3 = 3",
            "back = 0; rows 0 = 2");
        Script.holds("Promise 10: Else answers how many are still kept",
            "begin = 1; back = 0; mark = 1; back = 0; mark = 1; mark = 2; back = 1; mark = 2; mark = 3; back = 2",
            "back = 1; back = 0; back = 0");
        Script.holds("Promise 10: Makes all as it was: a link that was not sound then is not now",
            "link 0 0 0 3 = -1; insert 0 1 = 1; begin = 1; refer 0 1 0 2 = -1; mark = 1; refer 0 1 0 1 = 2",
            "dangling = 0", "back = 0; dangling = 1; commit ! -9; back = 0; dangling = 0; commit = 1");
    }

    private static void commit() {
        Script.holds("Promise 11: None is open: -1",
            "commit ! -1; begin = 1; commit = 1; commit ! -1; begin = 1; rollback = 1; commit ! -1");
        for (int table = 0; table < 3; table++) {
            for (int column = 0; column < 2; column++) {
                String cell = table + " 4 " + column;
                Script.holds("Promise 11: a link with rule 3 is not sound that was when the transaction began: -9",
                    "link " + table + " " + column + " " + table + " 3 = -1; insert " + table + " 4 = 1; begin = 1",
                    "refer " + cell + " 5 = -1; commit ! -9; refer " + cell + " -1 = 5; commit = 1",
                    "reference " + cell + " = -1");
            }
        }
        Script.holds("Promise 11: a link with rule 3 is not sound: one of two",
            "link 0 0 1 3 = -1; link 0 1 1 3 = -1", Script.rows(0, 4), Script.rows(1, 5),
            "begin = 1; refer 0 4 0 6 = -1; refer 0 4 1 7 = -1; commit ! -9; insert 1 7 = 2; commit ! -9",
            "insert 1 6 = 3; commit = 1");
        Script.holds("Promise 11: -9 (the transaction stays open)",
            "link 0 0 1 3 = -1", Script.rows(0, 4),
            "begin = 1; mark = 1; refer 0 4 0 6 = -1; mark = 2; commit ! -9; commit ! -9; begin ! -1",
            "link 1 0 0 0 ! -4", "mark = 3; back = 2; back = 1; back = 0; commit = 1; reference 0 4 0 = -1");
        Script.holds("Promise 11: -9 (the transaction stays open): and can be rolled back",
            "link 0 0 1 3 = -1", Script.rows(0, 4),
            "begin = 1; refer 0 4 0 6 = -1; commit ! -9; rollback = 1; reference 0 4 0 = -1; commit ! -1");
        Script.holds("Promise 11: Ends the transaction. Else 1: what was done stays",
            "begin = 1; insert 0 1 = 1; mark = 1; insert 0 2 = 2; commit = 1; rows 0 = 2; rollback ! -1",
            "back ! -1; mark ! -1; rows 0 = 2");
        Script.holds("Promise 11: Ends the transaction. Else 1: nothing was done",
            "begin = 1; commit = 1; begin = 1; commit = 1");
        Script.holds("Promise 11: Ends the transaction: links are looked at at once again",
            "link 0 0 0 3 = -1; insert 0 1 = 1; begin = 1; commit = 1; refer 0 1 0 2 ! -9");
        Script.holds("Promise 11: dangling references without a link are no matter",
            "insert 0 1 = 1; begin = 1; refer 0 1 0 9 = -1; commit = 1; reference 0 1 0 = 9");
    }

    private static void rollback() {
        Script.holds("Promise 12: None is open: -1",
            "insert 0 1 = 1; rollback ! -1; begin = 1; insert 0 2 = 2; commit = 1; rollback ! -1; rows 0 = 2",
            "begin = 1; rollback = 1; rollback ! -1");
        Script.holds("Promise 12: all is as it was when it began",
            "link 0 0 1 1 = -1; link 0 1 1 3 = -1", Script.rows(0, 0, 19), Script.rows(1, 0, 19),
            "refer 0 0 0 19 = -1; refer 0 19 1 0 = -1; value 0 0 min = 1; value 1 19 max = 1; begin = 1",
            "rekey 1 19 7 = 1; remove 1 0 = 1; value 0 0 1 = 1; refer 0 19 1 5 = 0; insert 2 0 = 1",
            "remove 1 7 = 2; rollback = 1",
            "rows 0 = 2; rows 1 = 2; rows 2 = 0; reference 0 0 0 = 19; reference 0 0 1 = -1; reference 0 19 1 = 0",
            "valueOf 0 0 = min; valueOf 1 19 = max; keyAt 1 0 = 0; keyAt 1 1 = 19; dangling = 0");
        Script.holds("Promise 12: all is as it was when it began, not when it was kept by mark",
            "insert 0 1 = 1; begin = 1; insert 0 2 = 2; mark = 1; insert 0 3 = 3; mark = 2; rollback = 1; rows 0 = 1",
            "begin = 1; insert 0 2 = 2; mark = 1; back = 0; rollback = 1; rows 0 = 1");
        Script.holds("Promise 12: when it began, not when one before it did",
            "begin = 1; insert 0 1 = 1; commit = 1; begin = 1; insert 0 2 = 2; rollback = 1",
            "rows 0 = 1; keyAt 0 0 = 1");
        Script.holds("Promise 12: Ends the transaction",
            "link 0 0 0 3 = -1; insert 0 1 = 1; begin = 1; mark = 1; rollback = 1; back ! -1; mark ! -1; commit ! -1",
            "refer 0 1 0 2 ! -9; link 1 0 0 0 = -1; begin = 1; mark = 1");
    }

    private static void rowsAndKeyAt() {
        Script.holds("Promise 13: How many rows a table has; table: -1",
            Script.each("rows ? = 0", 0, 1, 2), Script.rows(1, Script.from(8, 19)),
            "rows 1 = 12; rows 0 = 0; rows 2 = 0", "remove 1 8 = 1; rows 1 = 11",
            Script.each("rows ? = -1", -1, 3, MIN, MAX));
        Script.holds("Promise 14: the k-th (0 for the first) in rising order",
            Script.rows(0, 19, 0, 11, 10, 1), Script.rows(1, 5), Script.rows(2, 4),
            "keyAt 0 0 = 0; keyAt 0 1 = 1; keyAt 0 2 = 10; keyAt 0 3 = 11; keyAt 0 4 = 19; keyAt 1 0 = 5",
            "keyAt 2 0 = 4",
            "rekey 0 0 12 = 0; keyAt 0 0 = 1; keyAt 0 3 = 12; keyAt 0 4 = 19; remove 0 10 = 1; keyAt 0 1 = 11");
        Script.holds("Promise 14: the k-th of a full table",
            Script.rows(2, Script.from(8, 19)), "keyAt 2 0 = 8; keyAt 2 11 = 19; keyAt 2 12 = -2");
        Script.holds("Promise 14: Table: -1", "insert 0 0 = 1", Script.each("keyAt ? 0 = -1", -1, 3, MIN, MAX));
        Script.holds("Promise 14: there is none: -2",
            "keyAt 0 0 = -2", Script.rows(0, 4, 6), Script.rows(1, 7),
            Script.each("keyAt 0 ? = -2", -1, 2, 4, 12, 20, MIN, MAX),
            "keyAt 1 1 = -2; keyAt 2 0 = -2; remove 0 4 = 1; keyAt 0 1 = -2; remove 0 6 = 1; keyAt 0 0 = -2");
    }

    private static void referenceAndValueOf() {
        Script.holds("Promise 15: The reference of a row in a column; -1 if that is none",
            Script.rows(0, 5),
            "reference 0 5 0 = -1; refer 0 5 0 0 = -1; refer 0 5 1 19 = -1; reference 0 5 0 = 0",
            "reference 0 5 1 = 19; refer 0 5 1 -1 = 19; reference 0 5 1 = -1");
        Script.holds("Promise 15: Table: -2", "insert 0 0 = 1", Script.each("reference ? 0 0 = -2", -1, 3, MIN, MAX));
        Script.holds("Promise 15: it has no row with this key: -3",
            Script.rows(1, 0, 19), Script.rows(0, 5), Script.rows(2, 5),
            Script.each("reference 1 ? 0 = -3", -1, 1, 5, 18, 20, -15, 25, MIN, MAX),
            "remove 1 0 = 1; reference 1 0 0 = -3; rekey 1 19 7 = 0; reference 1 19 1 = -3");
        Script.holds("Promise 15: column is not 0 or 1: -4",
            "insert 1 5 = 1", Script.each("reference 1 5 ? = -4", -1, 2, 3, MIN, MAX));
        Script.holds("Promise 16: 0 if there is no such table or row",
            Script.rows(1, 0, 19), Script.rows(0, 5), Script.rows(2, 5),
            "value 1 0 3 = 1; value 1 19 4 = 1; value 0 5 6 = 1; value 2 5 7 = 1",
            Script.each("valueOf ? 5 = 0; valueOf ? 0 = 0", -1, 3, MIN, MAX),
            Script.each("valueOf 1 ? = 0", -1, 1, 5, 18, 20, -15, 25, MIN, MAX),
            "remove 1 0 = 1; valueOf 1 0 = 0; rekey 1 19 7 = 0; valueOf 1 19 = 0; valueOf 1 7 = 4");
        Script.holds("Promise 16: The value of a row",
            Script.rows(0, 0), Script.rows(2, 19),
            "value 0 0 min = 1; value 2 19 max = 1; valueOf 0 0 = min; valueOf 2 19 = max; insert 0 1 = 2",
            "valueOf 0 1 = 0");
    }

    private static void referrersAndWouldGo() {
        for (int rule = 0; rule < 4; rule++) {
            Script.holds("Promise 17: How many references there are to a row, by columns that are linked to its table",
                Script.each("link 0 0 0 ? = -1; link 0 1 0 ? = -1; link 1 1 0 ? = -1; link 2 0 1 ? = -1", rule),
                Script.rows(0, 0, 19), Script.rows(1, 0), Script.rows(2, 0),
                "referrers 0 0 = 0; refer 0 0 0 0 = -1; referrers 0 0 = 1; refer 0 0 1 0 = -1; referrers 0 0 = 2",
                "refer 0 19 1 0 = -1; refer 1 0 1 0 = -1; referrers 0 0 = 4; refer 1 0 0 0 = -1",
                "refer 2 0 0 0 = -1; refer 2 0 1 0 = -1",
                "referrers 0 0 = 4; referrers 0 19 = 0; referrers 1 0 = 1; referrers 2 0 = 0; refer 0 19 1 19 = 0",
                "referrers 0 19 = 1; referrers 0 0 = 3");
        }
        Script.answers("Promise 17: How many references there are to a row: all 72 that there can be",
            Script.each("link ? 0 2 3 = -1; link ? 1 2 1 = -1", 0, 1, 2), Script.rows(0, Script.from(0, 11)),
            Script.rows(1, Script.from(0, 11)), Script.rows(2, Script.from(8, 19)),
            Script.each("refer 0 ? 0 19 = -1; refer 0 ? 1 19 = -1; refer 1 ? 0 19 = -1; refer 1 ? 1 19 = -1",
                Script.from(0, 11)),
            Script.each("refer 2 ? 0 19 = -1; refer 2 ? 1 19 = -1", Script.from(8, 19)),
            "referrers 2 19 = 72; referrers 2 18 = 0");
        Script.holds("Promise 17: Table: -1", "insert 0 0 = 1", Script.each("referrers ? 0 = -1", -1, 3, MIN, MAX));
        Script.holds("Promise 17: it has no row with this key: -2",
            "link 0 0 1 3 = -1", Script.rows(1, 0, 19), Script.rows(0, 5), Script.rows(2, 5),
            Script.each("referrers 1 ? = -2", -1, 1, 5, 18, 20, -15, 25, MIN, MAX),
            "begin = 1; refer 0 5 0 4 = -1; referrers 1 4 = -2");
        Script.holds("Promise 18: How many rows would go if a row were removed, -5 if a rule 0 refuses that",
            "link 1 0 0 1 = -1; link 2 0 1 0 = -1", Script.rows(0, 1), Script.rows(1, 2, 3), Script.rows(2, 4),
            "wouldGo 0 1 = 1; refer 1 2 0 1 = -1; refer 1 3 0 1 = -1; wouldGo 0 1 = 3; refer 2 4 0 3 = -1",
            "wouldGo 0 1 = -5; wouldGo 1 3 = -5; wouldGo 1 2 = 1; wouldGo 2 4 = 1");
        Script.holds("Promise 18: (links are not looked at)",
            "link 0 0 0 3 = -1; link 1 0 0 1 = -1", Script.rows(0, 1, 2), Script.rows(1, 3),
            "refer 0 2 0 1 = -1; refer 1 3 0 1 = -1; wouldGo 0 1 = 2; remove 0 1 ! -9; begin = 1; wouldGo 0 1 = 2",
            "remove 0 1 = 2");
        Script.holds("Promise 18: Table: -1", "insert 0 0 = 1", Script.each("wouldGo ? 0 = -1", -1, 3, MIN, MAX));
        Script.holds("Promise 18: it has no row with this key: -2",
            "link 0 0 1 1 = -1", Script.rows(1, 0, 19), Script.rows(0, 5), Script.rows(2, 5),
            Script.each("wouldGo 1 ? = -2", -1, 1, 5, 18, 20, -15, 25, MIN, MAX), "remove 1 0 = 1; wouldGo 1 0 = -2");
    }

    private static void danglingAndSum() {
        Script.holds("Promise 19: How many references other than -1 in linked columns are no key of a row of the linked table",
            "dangling = 0; link 0 0 1 3 = -1; link 2 1 2 3 = -1; dangling = 0", Script.rows(0, 0, 19),
            Script.rows(1, 7), Script.rows(2, 5),
            "dangling = 0; refer 0 0 1 9 = -1; refer 2 5 0 9 = -1; dangling = 0; refer 0 19 0 7 = -1",
            "refer 2 5 1 5 = -1; dangling = 0",
            "begin = 1; refer 0 0 0 19 = -1; dangling = 1; refer 0 0 0 5 = 19; dangling = 1; remove 1 7 = 1",
            "dangling = 2; rekey 2 5 6 = 0; dangling = 3",
            "insert 1 5 = 1; dangling = 2; remove 0 19 = 1; dangling = 1; refer 2 6 1 -1 = 5; dangling = 0",
            "commit = 1");
        Script.answers("Promise 19: How many references are no key of a row: all 72 that there can be",
            Script.each("link ? 0 0 3 = -1; link ? 1 2 3 = -1", 0, 1, 2), Script.rows(0, Script.from(0, 11)),
            Script.rows(1, Script.from(0, 11)), Script.rows(2, Script.from(0, 11)), "begin = 1",
            Script.each("refer 0 ? 0 12 = -1; refer 0 ? 1 19 = -1; refer 1 ? 0 13 = -1; refer 1 ? 1 18 = -1",
                Script.from(0, 11)),
            Script.each("refer 2 ? 0 14 = -1; refer 2 ? 1 17 = -1", Script.from(0, 11)),
            "dangling = 72; commit ! -9; rollback = 1; dangling = 0");
        Script.holds("Promise 20: The sum (wrapping) of the values of all rows of a table",
            "sum 0 = 0", Script.rows(0, 0, 10, 19),
            "value 0 0 max = 1; value 0 19 1 = 1; sum 0 = min; value 0 10 max = 1; sum 0 = -1",
            "value 0 0 min = 1; value 0 19 min = 1; sum 0 = max; value 0 10 -1 = 1; sum 0 = -1; value 0 19 -1 = 1",
            "sum 0 = 2147483646");
        Script.holds("Promise 20: The sum of the values of all rows of a table, none of another one or of one that went",
            Script.rows(0, 0, 19), Script.rows(1, 0, 19), Script.rows(2, 0),
            "value 0 0 1 = 1; value 0 19 2 = 1; value 1 0 4 = 1; value 1 19 8 = 1; value 2 0 16 = 1",
            "sum 0 = 3; sum 1 = 12; sum 2 = 16; remove 1 19 = 1; sum 1 = 4; rekey 1 0 19 = 0; sum 1 = 4",
            "remove 1 19 = 1; sum 1 = 0");
        Script.holds("Promise 20: table: 0",
            Script.rows(0, 0), Script.rows(2, 0), "value 0 0 5 = 1; value 2 0 6 = 1",
            Script.each("sum ? = 0", -1, 3, MIN, MAX));
    }

    public static void main(String[] args) {
        newObject();
        link();
        insert();
        remove();
        rekey();
        refer();
        value();
        begin();
        mark();
        back();
        commit();
        rollback();
        rowsAndKeyAt();
        referenceAndValueOf();
        referrersAndWouldGo();
        danglingAndSum();
        Script.end();
    }
}
