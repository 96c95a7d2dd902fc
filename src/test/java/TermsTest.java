/** The part "Terms" of the document: a test for each sentence that names a boundary case. */
public final class TermsTest {
    private static final int MIN = Integer.MIN_VALUE;
    private static final int MAX = Integer.MAX_VALUE;

    private static void tablesAndRows() {
        Script.holds("There are three tables, 0 to 2",
            Script.rows(0, 5), Script.rows(1, 5, 6), Script.rows(2, 5, 6, 7),
            "rows 0 = 1; rows 1 = 2; rows 2 = 3",
            Script.each("insert ? 8 ! -1", -1, 3, 4, MIN, MAX),
            "rows 0 = 1; rows 1 = 2; rows 2 = 3");
        for (int table = 0; table < 3; table++) {
            Script.holds("each with at most 12 rows",
                Script.rows(table, Script.from(3, 14)),
                Script.each("insert " + table + " ? ! -4", 0, 2, 15, 19),
                "rows " + table + " = 12");
        }
        Script.holds("each with at most 12 rows: all three can be full",
            Script.rows(0, Script.from(0, 11)), Script.rows(1, Script.from(0, 11)),
            Script.rows(2, Script.from(0, 11)),
            "insert 0 12 ! -4; insert 1 12 ! -4; insert 2 12 ! -4");
        Script.holds("each with at most 12 rows: a row that goes makes room for one",
            Script.rows(1, Script.from(0, 11)),
            "remove 1 4 = 1; insert 1 19 = 12; insert 1 4 ! -4; rows 1 = 12");
        Script.holds("each with at most 12 rows: another key in a full table is no row more",
            Script.rows(2, Script.from(0, 11)), "rekey 2 0 19 = 0; rows 2 = 12; insert 2 0 ! -4");
        Script.holds("each with at most 12 rows: in a transaction too",
            Script.rows(0, Script.from(0, 10)),
            "begin = 1; insert 0 11 = 12; insert 0 12 ! -4; back = 0; insert 0 12 = 12",
            "insert 0 11 ! -4; commit = 1; insert 0 11 ! -4");
    }

    private static void keys() {
        for (int table = 0; table < 3; table++) {
            Script.holds("A row has a key from 0 to 19",
                Script.each("insert " + table + " ? = 1; keyAt " + table + " 0 = ?; remove " + table + " ? = 1",
                    Script.from(0, 19)),
                Script.each("insert " + table + " ? ! -2", -1, 20, -20, 40, MIN, MAX));
        }
        Script.holds("A row has a key from 0 to 19: and gets such a one",
            "insert 0 5 = 1", Script.each("rekey 0 5 ? = 0; rekey 0 ? 5 = 0", 0, 1, 4, 6, 18, 19),
            Script.each("rekey 0 5 ? ! -3", -1, 20, -20, 40, MIN, MAX));
        Script.holds("different rows of a table have different keys",
            Script.rows(0, 0, 19, 7),
            Script.each("insert 0 ? ! -3", 0, 19, 7),
            "rekey 0 0 19 ! -4; rekey 0 19 7 ! -4; rekey 0 7 0 ! -4; rows 0 = 3");
        Script.holds("different rows of a table have different keys: those of other tables are no matter",
            "insert 0 3 = 1; insert 1 3 = 1; insert 2 4 = 1; rekey 2 4 3 = 0",
            "keyAt 0 0 = 3; keyAt 1 0 = 3; keyAt 2 0 = 3");
    }

    private static void referencesAndValues() {
        for (int column = 0; column < 2; column++) {
            Script.holds("two references, numbers from 0 to 19 or -1 for none",
                "insert 1 6 = 1",
                Script.each("refer 1 6 " + column + " ? = -1; reference 1 6 " + column + " = ?; "
                    + "refer 1 6 " + column + " -1 = ?; reference 1 6 " + column + " = -1", Script.from(0, 19)),
                Script.each("refer 1 6 " + column + " ? ! -4", -2, 20, MIN, MAX));
        }
        Script.holds("a value, any int", "insert 2 0 = 1",
            Script.each("value 2 0 ? = 1; valueOf 2 0 = ?; sum 2 = ?", 1, -1, MAX, MIN, 0, -9, 65536));
        Script.holds("References are named by their column, 0 or 1",
            "insert 0 3 = 1; refer 0 3 0 4 = -1; reference 0 3 1 = -1; refer 0 3 1 9 = -1",
            "reference 0 3 0 = 4; reference 0 3 1 = 9",
            Script.each("refer 0 3 ? 1 ! -3; reference 0 3 ? = -4; link 1 ? 0 0 ! -2", -1, 2, MIN, MAX));
    }

    private static void links() {
        for (int from = 0; from < 3; from++) {
            for (int column = 0; column < 2; column++) {
                for (int to = 0; to < 3; to++) {
                    StringBuilder refer = new StringBuilder();
                    for (int other = 0; other < 3; other++) {
                        String call = "refer " + from + " " + (10 + from) + " " + column + " " + (10 + other);
                        refer.append(call).append(other == to ? " = -1\n" : " ! -9\n");
                        refer.append("refer " + from + " " + (10 + from) + " " + column + " -1 = ");
                        refer.append(other == to ? 10 + other : -1).append("\n");
                    }
                    Script.holds("a column of a table may be linked to a table (also to its own)",
                        "link " + from + " " + column + " " + to + " 0 = -1",
                        "insert 0 10 = 1; insert 1 11 = 1; insert 2 12 = 1", refer.toString());
                }
            }
        }
        Script.holds("A row refers to another one (or to itself)",
            "link 0 0 0 2 = -1", Script.rows(0, 1, 2),
            "refer 0 2 0 1 = -1; referrers 0 1 = 1; refer 0 1 0 1 = -1; referrers 0 1 = 2",
            "refer 0 2 0 2 = 1; referrers 0 2 = 1; referrers 0 1 = 1");
        Script.holds("A row refers to another one by a column that is linked to that one's table",
            "link 0 0 1 1 = -1", Script.rows(0, 4), Script.rows(1, 4), Script.rows(2, 4),
            "refer 0 4 0 4 = -1; refer 0 4 1 4 = -1; refer 1 4 0 4 = -1; refer 2 4 1 4 = -1",
            "referrers 0 4 = 0; referrers 1 4 = 1; referrers 2 4 = 0",
            "wouldGo 0 4 = 1; wouldGo 1 4 = 2; wouldGo 2 4 = 1");
    }

    private static void rules() {
        Script.holds("0 a row that is referred to must stay as it is",
            "link 0 0 1 0 = -1", Script.rows(0, 3), Script.rows(1, 5),
            "refer 0 3 0 5 = -1; remove 1 5 ! -5; rekey 1 5 6 ! -5; wouldGo 1 5 = -5",
            "begin = 1; remove 1 5 ! -5; rekey 1 5 6 ! -5; commit = 1",
            "refer 0 3 0 -1 = 5; rekey 1 5 6 = 0; remove 1 6 = 1");
        Script.holds("1 whoever refers to a row goes with it, and follows its key",
            "link 0 0 1 1 = -1", Script.rows(0, 3, 4), Script.rows(1, 5),
            "refer 0 3 0 5 = -1; rekey 1 5 6 = 1; reference 0 3 0 = 6",
            "wouldGo 1 6 = 2; remove 1 6 = 2; rows 0 = 1; keyAt 0 0 = 4; rows 1 = 0");
        Script.holds("2 whoever refers to a row lets go of it",
            "link 0 0 1 2 = -1", Script.rows(0, 3), Script.rows(1, 5),
            "refer 0 3 0 5 = -1; rekey 1 5 6 = 1; reference 0 3 0 = -1",
            "refer 0 3 0 6 = -1; wouldGo 1 6 = 1; remove 1 6 = 1; reference 0 3 0 = -1; rows 0 = 1");
        Script.holds("3 nothing is done; it is only checked at the end of a transaction",
            "link 0 0 1 3 = -1", Script.rows(0, 3), Script.rows(1, 5),
            "refer 0 3 0 5 = -1; begin = 1; rekey 1 5 6 = 0; reference 0 3 0 = 5; dangling = 1",
            "remove 1 6 = 1; reference 0 3 0 = 5; rows 0 = 1; commit ! -9",
            "insert 1 5 = 1; commit = 1");
    }

    private static void soundness() {
        for (int rule = 0; rule < 4; rule++) {
            String link = "link 0 1 1 " + rule + " = -1";
            Script.holds("A link is sound if every row's reference that is not -1 is a key there: none is no matter",
                link, Script.rows(0, 2, 3), "refer 0 2 1 -1 = -1; insert 1 7 = 1; refer 0 2 1 7 = -1",
                "refer 0 2 1 -1 = 7; refer 0 3 1 -1 = -1; dangling = 0");
            Script.holds("A link is sound if every row's reference that is not -1 is a key there: an empty table",
                link, Script.rows(0, 2), Script.each("refer 0 2 1 ? ! -9", Script.from(0, 19)));
            Script.holds("A link is sound if every row's reference that is not -1 is a key there: one row is enough",
                link, Script.rows(0, 0, 8, 19), Script.rows(1, 0, 19),
                "refer 0 0 1 0 = -1; refer 0 8 1 19 = -1; refer 0 19 1 0 = -1",
                "refer 0 0 1 1 ! -9; refer 0 8 1 18 ! -9; refer 0 19 1 8 ! -9");
            Script.holds("A link is sound if every row's reference is the key of a row of the linked table, no other",
                link, Script.rows(0, 2), Script.rows(1, 7), Script.rows(2, 9),
                "refer 0 2 1 2 ! -9; refer 0 2 1 9 ! -9; refer 0 2 1 7 = -1; refer 0 2 0 9 = -1");
        }
    }

    private static void rowsThatGo() {
        Script.holds("the least set of rows that has this row: alone if nobody refers to it",
            "link 0 0 0 1 = -1; link 1 0 0 1 = -1", Script.rows(0, 1, 2), Script.rows(1, 1),
            "wouldGo 0 1 = 1; remove 0 1 = 1; rows 0 = 1; rows 1 = 1");
        Script.holds("the least set: a row that refers to itself goes once",
            "link 0 0 0 1 = -1; link 0 1 0 1 = -1", Script.rows(0, 1, 2),
            "refer 0 1 0 1 = -1; refer 0 1 1 1 = -1; wouldGo 0 1 = 1; remove 0 1 = 1; rows 0 = 1");
        Script.holds("the least set: a row that refers by both columns goes once",
            "link 1 0 0 1 = -1; link 1 1 0 1 = -1", Script.rows(0, 1), Script.rows(1, 2),
            "refer 1 2 0 1 = -1; refer 1 2 1 1 = -1; wouldGo 0 1 = 2; remove 0 1 = 2; rows 1 = 0");
        Script.holds("the least set: rows that it refers to stay",
            "link 0 0 0 1 = -1; link 0 1 1 1 = -1", Script.rows(0, 1, 2), Script.rows(1, 3),
            "refer 0 1 0 2 = -1; refer 0 1 1 3 = -1; wouldGo 0 1 = 1; remove 0 1 = 1",
            "keyAt 0 0 = 2; rows 1 = 1");
        Script.holds("the least set: who refers by rule 2, 3 or no link stays",
            "link 1 0 0 2 = -1; link 2 0 0 3 = -1", Script.rows(0, 1), Script.rows(1, 1), Script.rows(2, 1),
            "refer 1 1 0 1 = -1; refer 1 1 1 1 = -1; refer 2 1 0 1 = -1; refer 2 1 1 1 = -1",
            "wouldGo 0 1 = 1; begin = 1; remove 0 1 = 1; rows 1 = 1; rows 2 = 1");
        Script.holds("the least set: who refers to a row of another table by the same key stays",
            "link 2 0 1 1 = -1", Script.rows(0, 4), Script.rows(1, 4), Script.rows(2, 4),
            "refer 2 4 0 4 = -1; wouldGo 0 4 = 1; remove 0 4 = 1; rows 2 = 1; remove 1 4 = 2");
        Script.holds("with any row, all rows that refer to it by columns whose links have rule 1: through tables",
            "link 1 1 0 1 = -1; link 2 0 1 1 = -1; link 0 0 2 1 = -1",
            Script.rows(0, 1, 2), Script.rows(1, 3, 4), Script.rows(2, 5, 6),
            "refer 1 4 1 1 = -1; refer 2 5 0 4 = -1; refer 2 6 0 4 = -1; refer 0 2 0 6 = -1; refer 1 3 1 2 = -1",
            "wouldGo 0 1 = 6; wouldGo 1 4 = 5; wouldGo 2 6 = 3; wouldGo 0 2 = 2; wouldGo 1 3 = 1",
            "remove 0 1 = 6; rows 0 = 0; rows 1 = 0; rows 2 = 0");
        Script.holds("with any row, all rows that refer to it: a circle",
            "link 0 0 1 1 = -1; link 1 0 0 1 = -1", Script.rows(0, 1, 2), Script.rows(1, 1, 2),
            "refer 0 1 0 1 = -1; refer 1 1 0 2 = -1; refer 0 2 0 2 = -1; refer 1 2 0 1 = -1",
            "wouldGo 0 1 = 4; remove 1 2 = 4; rows 0 = 0; rows 1 = 0");
        // The line is found however the rows lie: the next one has a higher key, or a lower one.
        Script.holds("with any row, all rows that refer to it: twelve in a line, up the keys",
            "link 0 0 0 1 = -1", Script.rows(0, Script.from(4, 15)), line(1),
            "wouldGo 0 4 = 12; wouldGo 0 14 = 2; wouldGo 0 15 = 1; remove 0 4 = 12; rows 0 = 0");
        Script.holds("with any row, all rows that refer to it: twelve in a line, down the keys",
            "link 0 0 0 1 = -1", Script.rows(0, Script.from(4, 15)), line(-1),
            "wouldGo 0 15 = 12; wouldGo 0 5 = 2; wouldGo 0 4 = 1; remove 0 15 = 12; rows 0 = 0");
        Script.answers("with any row, all rows that refer to it: all 36 that there can be, in a line",
            "link 0 0 1 1 = -1; link 1 0 2 1 = -1; link 2 1 0 1 = -1", Script.rows(0, Script.from(0, 11)),
            Script.rows(1, Script.from(0, 11)), Script.rows(2, Script.from(0, 11)),
            Script.each("refer 0 ? 0 ? = -1; refer 1 ? 0 ? = -1", Script.from(0, 11)), line36(),
            "wouldGo 2 0 = 36; wouldGo 1 0 = 35; wouldGo 0 0 = 34; wouldGo 0 11 = 1; remove 2 0 = 36",
            "rows 0 = 0; rows 1 = 0; rows 2 = 0");
    }

    /** Each row of table 2 refers to the row of table 0 at the end of the line so far. */
    private static String line36() {
        StringBuilder all = new StringBuilder();
        for (int key = 1; key < 12; key++) {
            all.append("refer 2 " + key + " 1 " + (key - 1) + " = -1\n");
        }
        return all.toString();
    }

    /** Rows 4 to 15 of table 0, each but one referred to by the next one in this direction. */
    private static String line(int step) {
        StringBuilder all = new StringBuilder();
        for (int key = 4; key <= 15; key++) {
            int next = key + step;
            if (4 <= next && next <= 15) {
                all.append("refer 0 " + next + " 0 " + key + " = -1\n");
            }
        }
        return all.toString();
    }

    private static void rowsHeldBack() {
        Script.holds("If a row that is not in G refers to a row of G by rule 0: to the row itself",
            "link 1 0 0 0 = -1", Script.rows(0, 1, 2), Script.rows(1, 3),
            "refer 1 3 0 1 = -1; wouldGo 0 1 = -5; remove 0 1 ! -5; remove 0 2 = 1; rows 0 = 1");
        Script.holds("If a row that is not in G refers to a row of G by rule 0: to one that goes with it",
            "link 1 0 0 1 = -1; link 2 1 1 0 = -1", Script.rows(0, 1), Script.rows(1, 3), Script.rows(2, 5),
            "refer 1 3 0 1 = -1; refer 2 5 1 3 = -1; wouldGo 0 1 = -5; remove 0 1 ! -5",
            "refer 2 5 1 -1 = 3; remove 0 1 = 2");
        Script.holds("If a row that is not in G refers to a row of G by rule 0: itself is in G",
            "link 0 0 0 0 = -1", Script.rows(0, 1),
            "refer 0 1 0 1 = -1; wouldGo 0 1 = 1; remove 0 1 = 1; rows 0 = 0");
        Script.holds("If a row that is not in G refers to a row of G by rule 0: who goes with it is in G",
            "link 1 0 0 1 = -1; link 1 1 0 0 = -1", Script.rows(0, 1), Script.rows(1, 3, 4),
            "refer 1 3 0 1 = -1; refer 1 3 1 1 = -1; wouldGo 0 1 = 2",
            "refer 1 4 1 1 = -1; wouldGo 0 1 = -5; remove 0 1 ! -5; refer 1 4 0 1 = -1; remove 0 1 = 3");
        Script.holds("If a row that is not in G refers to a row of G by rule 0: to a row that stays is no matter",
            "link 0 0 0 0 = -1", Script.rows(0, 1, 2, 3), Script.rows(1, 1),
            "refer 0 1 0 2 = -1; refer 0 3 0 2 = -1; remove 1 1 = 1; remove 0 1 = 1; remove 0 2 ! -5");
        Script.holds("If a row refers to a row of G by rule 0, others that let go do not help",
            "link 1 0 0 2 = -1; link 1 1 0 0 = -1", Script.rows(0, 1), Script.rows(1, 3),
            "refer 1 3 0 1 = -1; refer 1 3 1 1 = -1; remove 0 1 ! -5; reference 1 3 0 = 1");
    }

    private static void lettingGo() {
        Script.holds("in all rows not in G, references to rows of G by rule 2 become -1: all of them",
            "link 0 1 0 2 = -1; link 1 0 0 2 = -1; link 1 1 0 2 = -1",
            Script.rows(0, 0, 19), Script.rows(1, 0, 7, 19),
            "refer 0 0 1 19 = -1; refer 0 19 1 19 = -1",
            Script.each("refer 1 ? 0 19 = -1; refer 1 ? 1 19 = -1", 0, 7, 19),
            "remove 0 19 = 1; reference 0 0 1 = -1",
            Script.each("reference 1 ? 0 = -1; reference 1 ? 1 = -1", 0, 7, 19), "dangling = 0; rows 1 = 3");
        Script.holds("in all rows not in G, references to rows of G by rule 2 become -1: to who goes with it",
            "link 1 0 0 1 = -1; link 2 0 1 2 = -1", Script.rows(0, 1), Script.rows(1, 2, 3), Script.rows(2, 4, 5),
            "refer 1 2 0 1 = -1; refer 2 4 0 2 = -1; refer 2 5 0 3 = -1; remove 0 1 = 2",
            "reference 2 4 0 = -1; reference 2 5 0 = 3; rows 2 = 2");
        Script.holds("references to rows of G by rule 2 become -1: no other ones",
            "link 1 0 0 2 = -1; link 2 0 1 2 = -1; link 2 1 0 2 = -1",
            Script.rows(0, 1, 2), Script.rows(1, 1, 2), Script.rows(2, 1, 2),
            "refer 1 1 0 1 = -1; refer 1 2 0 2 = -1; refer 1 1 1 1 = -1; refer 2 1 0 1 = -1; refer 2 2 1 2 = -1",
            "value 1 1 5 = 1; remove 0 1 = 1; reference 1 1 0 = -1; reference 1 2 0 = 2; reference 1 1 1 = 1",
            "reference 2 1 0 = 1; reference 2 2 1 = 2; valueOf 1 1 = 5");
        Script.holds("and all rows of G go: also one that refers by rule 2 besides",
            "link 1 0 0 1 = -1; link 1 1 0 2 = -1", Script.rows(0, 1), Script.rows(1, 3, 4),
            "refer 1 3 0 1 = -1; refer 1 3 1 1 = -1; refer 1 4 1 1 = -1; remove 0 1 = 2",
            "rows 1 = 1; keyAt 1 0 = 4; reference 1 4 1 = -1; insert 1 3 = 2; reference 1 3 0 = -1");
    }

    private static void otherKeys() {
        Script.holds("if a row (perhaps itself) refers to it by rule 0, the call is refused",
            "link 0 0 0 0 = -1; link 1 1 0 0 = -1", Script.rows(0, 1, 2, 3), Script.rows(1, 1),
            "refer 0 1 0 1 = -1; rekey 0 1 4 ! -5; refer 0 1 0 -1 = 1; refer 0 2 0 1 = -1; rekey 0 1 4 ! -5",
            "refer 0 2 0 -1 = 1; refer 1 1 1 1 = -1; rekey 0 1 4 ! -5; rekey 1 1 4 = 0; rekey 0 1 4 ! -5",
            "rekey 0 2 5 = 0; refer 1 4 1 -1 = 1; rekey 0 1 4 = 0");
        Script.holds("if a row refers to it by rule 0, others that follow do not help",
            "link 1 0 0 1 = -1; link 1 1 0 0 = -1", Script.rows(0, 1), Script.rows(1, 3),
            "refer 1 3 0 1 = -1; refer 1 3 1 1 = -1; rekey 0 1 4 ! -5; reference 1 3 0 = 1");
        Script.holds("Else the row gets the key: with its references and its value",
            Script.rows(0, 7), "refer 0 7 0 3 = -1; refer 0 7 1 9 = -1; value 0 7 max = 1; rekey 0 7 2 = 0",
            "rows 0 = 1; keyAt 0 0 = 2; reference 0 2 0 = 3; reference 0 2 1 = 9; valueOf 0 2 = max",
            "reference 0 7 0 = -3; insert 0 7 = 2; reference 0 7 0 = -1; reference 0 7 1 = -1; valueOf 0 7 = 0");
        Script.holds("all references to it by columns with rule 1 become the new key",
            "link 0 0 0 1 = -1; link 1 0 0 1 = -1; link 1 1 0 1 = -1; link 2 1 0 1 = -1",
            Script.rows(0, 0, 19), Script.rows(1, 0, 19), Script.rows(2, 5),
            "refer 0 0 0 0 = -1; refer 0 19 0 0 = -1; refer 1 0 0 0 = -1; refer 1 0 1 0 = -1",
            "refer 1 19 0 19 = -1; refer 1 19 1 0 = -1; refer 2 5 0 0 = -1; refer 2 5 1 0 = -1",
            "rekey 0 0 8 = 6; reference 0 8 0 = 8; reference 0 19 0 = 8; reference 1 0 0 = 8; reference 1 0 1 = 8",
            "reference 1 19 0 = 19; reference 1 19 1 = 8; reference 2 5 0 = 0; reference 2 5 1 = 8");
        Script.holds("those by columns with rule 2 become -1",
            "link 0 1 0 2 = -1; link 1 0 0 2 = -1; link 1 1 0 2 = -1; link 2 0 1 2 = -1",
            Script.rows(0, 0, 19), Script.rows(1, 0, 19), Script.rows(2, 5),
            "refer 0 0 1 0 = -1; refer 0 19 1 0 = -1; refer 1 0 0 0 = -1; refer 1 0 1 0 = -1",
            "refer 1 19 0 19 = -1; refer 1 19 1 0 = -1; refer 2 5 0 0 = -1; refer 2 5 1 0 = -1",
            "rekey 0 0 8 = 5; reference 0 8 1 = -1; reference 0 19 1 = -1; reference 1 0 0 = -1",
            "reference 1 0 1 = -1; reference 1 19 0 = 19; reference 1 19 1 = -1",
            "reference 2 5 0 = 0; reference 2 5 1 = 0");
        Script.holds("all references to it: who refers to a row that follows keeps its reference",
            "link 1 0 0 1 = -1; link 2 0 1 0 = -1; link 2 1 1 1 = -1",
            Script.rows(0, 1), Script.rows(1, 1), Script.rows(2, 1),
            "refer 1 1 0 1 = -1; refer 2 1 0 1 = -1; refer 2 1 1 1 = -1; rekey 0 1 9 = 1",
            "reference 1 1 0 = 9; reference 2 1 0 = 1; reference 2 1 1 = 1; keyAt 1 0 = 1");
        Script.holds("all references to it: one that had the new number already is none of them",
            "link 1 0 0 3 = -1; link 1 1 0 1 = -1", Script.rows(0, 1), Script.rows(1, 2),
            "begin = 1; refer 1 2 0 6 = -1; refer 1 2 1 1 = -1; rekey 0 1 6 = 1",
            "reference 1 2 0 = 6; reference 1 2 1 = 6; dangling = 0; commit = 1");
    }

    private static void statements() {
        for (int rule = 0; rule < 3; rule++) {
            String link = "link 0 0 1 " + rule + " = -1";
            Script.holds("A statement is refused if after it a link with rule 0, 1 or 2 would not be sound",
                link, Script.rows(0, 4), Script.rows(1, 5), "refer 0 4 0 6 ! -9; refer 0 4 0 5 = -1",
                "refer 0 4 0 6 ! -9; reference 0 4 0 = 5");
            Script.holds("A statement is refused for a link with rule 0, 1 or 2: in a transaction too",
                link, Script.rows(0, 4), Script.rows(1, 5), "begin = 1; refer 0 4 0 6 ! -9; refer 0 4 0 5 = -1",
                "refer 0 4 0 6 ! -9; mark = 1; refer 0 4 0 4 ! -9; reference 0 4 0 = 5; commit = 1");
            Script.holds("A statement is refused for a link with rule 0, 1 or 2: while one with rule 3 is not sound",
                link, "link 0 1 1 3 = -1", Script.rows(0, 4), Script.rows(1, 5),
                "begin = 1; refer 0 4 1 7 = -1; refer 0 4 0 7 ! -9; dangling = 1; insert 1 7 = 2",
                "refer 0 4 0 7 = -1; commit = 1");
        }
        Script.holds("Outside a transaction a statement is also refused for a link with rule 3: refer",
            "link 0 0 1 3 = -1", Script.rows(0, 4), Script.rows(1, 5),
            "refer 0 4 0 6 ! -9; refer 0 4 0 5 = -1; refer 0 4 0 6 ! -9; refer 0 4 0 -1 = 5");
        Script.holds("Outside a transaction a statement is also refused for a link with rule 3: remove",
            "link 0 0 1 3 = -1; link 2 0 1 1 = -1; link 2 1 1 2 = -1",
            Script.rows(0, 4), Script.rows(1, 5, 6), Script.rows(2, 1, 2),
            "refer 0 4 0 5 = -1; refer 2 1 0 5 = -1; refer 2 2 1 5 = -1; remove 1 5 ! -9; remove 1 6 = 1",
            "reference 2 2 1 = 5; rows 2 = 2; refer 0 4 0 -1 = 5; remove 1 5 = 2");
        Script.holds("Outside a transaction a statement is also refused for a link with rule 3: rekey",
            "link 0 0 1 3 = -1; link 2 0 1 1 = -1; link 2 1 1 2 = -1",
            Script.rows(0, 4), Script.rows(1, 5, 6), Script.rows(2, 1, 2),
            "refer 0 4 0 5 = -1; refer 2 1 0 5 = -1; refer 2 2 1 5 = -1; rekey 1 5 7 ! -9; rekey 1 6 7 = 0",
            "reference 2 1 0 = 5; reference 2 2 1 = 5; refer 0 4 0 -1 = 5; rekey 1 5 8 = 2");
        Script.holds("a link with rule 3 would not be sound: a row that refers to itself by it",
            "link 0 0 0 3 = -1", Script.rows(0, 4),
            "refer 0 4 0 4 = -1; rekey 0 4 5 ! -9; remove 0 4 = 1; dangling = 0");
        Script.holds("a link with rule 3 would not be sound: who refers by it goes too",
            "link 1 0 0 1 = -1; link 1 1 0 3 = -1", Script.rows(0, 1), Script.rows(1, 2),
            "refer 1 2 0 1 = -1; refer 1 2 1 1 = -1; remove 0 1 = 2; rows 1 = 0");
        Script.holds("In a transaction, such links are looked at when it is committed",
            "link 0 0 1 3 = -1", Script.rows(0, 3, 4), Script.rows(1, 5, 6),
            "refer 0 4 0 5 = -1; begin = 1; refer 0 3 0 9 = -1; remove 1 5 = 1; rekey 1 6 8 = 0; dangling = 2",
            "commit ! -9; refer 0 3 0 8 = 9; commit ! -9; insert 1 5 = 2; dangling = 0; commit = 1",
            "remove 1 5 ! -9; rekey 1 8 9 ! -9; refer 0 3 0 9 ! -9");
        Script.holds("the calls insert, remove, rekey, refer and value are statements: each one ends as it began",
            "link 0 0 1 1 = -1", Script.rows(0, 3), Script.rows(1, 5),
            "refer 0 3 0 5 = -1; value 0 3 7 = 1",
            "begin = 1; insert 2 2 = 1; rollback = 1; rows 2 = 0",
            "begin = 1; remove 1 5 = 2; rollback = 1; rows 0 = 1; rows 1 = 1",
            "begin = 1; rekey 1 5 6 = 1; rollback = 1; keyAt 1 0 = 5; reference 0 3 0 = 5",
            "begin = 1; refer 0 3 0 -1 = 5; rollback = 1; reference 0 3 0 = 5",
            "begin = 1; value 0 3 8 = 1; rollback = 1; valueOf 0 3 = 7");
        Script.holds("links: -9 comes from no insert and no value, as they make no link unsound",
            "link 0 0 0 3 = -1; link 0 1 1 0 = -1", Script.rows(0, 3),
            "insert 0 4 = 2; value 0 3 5 = 1; begin = 1; refer 0 3 0 9 = -1; insert 0 5 = 3; value 0 3 6 = 1",
            "dangling = 1; insert 0 9 = 4; dangling = 0; commit = 1");
    }

    private static void callsOfAnObject() {
        StringBuilder all = new StringBuilder("link 0 0 1 3 = -1; insert 0 0 = 1; insert 1 0 = 1\n");
        for (int i = 0; i < 72; i++) {
            all.append("begin = 1; rekey 1 0 1 = 0; mark = 1; remove 1 1 = 1; back = 0; rekey 1 1 0 = 0; commit = 1\n");
        }
        all.append("refer 0 0 0 0 = -1; begin = 1; remove 1 0 = 1; commit ! -9; rollback = 1");
        Script.answers("An object is used for at most 512 calls: the last one too is answered", all.toString());
    }

    public static void main(String[] args) {
        tablesAndRows();
        keys();
        referencesAndValues();
        links();
        rules();
        soundness();
        rowsThatGo();
        rowsHeldBack();
        lettingGo();
        otherKeys();
        statements();
        callsOfAnObject();
        Script.end();
    }
}
