/**
 * What the document says of refused calls and of questions: in which order a call's tests are
 * made, and that nothing changes (Script looks at that for each call that is marked by "!").
 */
public final class RefusalTest {
    private static final int MIN = Integer.MIN_VALUE;
    private static final int MAX = Integer.MAX_VALUE;

    // Links of each rule and one column without, rows that use them, and values.
    private static final String ALL_KINDS = """
        link 0 0 0 3 = -1; link 0 1 1 0 = -1; link 1 0 0 1 = -1; link 1 1 2 2 = -1; link 2 1 1 1 = -1
        insert 0 1 = 1; insert 0 2 = 2; insert 0 3 = 3; insert 1 1 = 1; insert 1 2 = 2; insert 2 1 = 1; insert 2 2 = 2
        refer 0 1 0 2 = -1; refer 0 1 1 1 = -1; refer 1 1 0 3 = -1; refer 1 2 1 1 = -1; refer 2 1 1 2 = -1
        refer 2 2 0 7 = -1; value 0 1 11 = 1; value 1 2 -12 = 1; value 2 2 13 = 1
        """;
    // The same, within a transaction that has changed much and keeps two states.
    private static final String IN_TRANSACTION = ALL_KINDS + """
        begin = 1; value 0 1 21 = 1; insert 2 9 = 3; mark = 1; refer 0 2 0 8 = -1; remove 2 9 = 1; mark = 2
        value 0 1 31 = 1; refer 0 3 0 8 = -1; insert 1 19 = 3
        """;

    private static void tableFirst() {
        for (String before : new String[] {ALL_KINDS, IN_TRANSACTION}) {
            Script.holds("A table that is not 0 to 2: -1 where a call says nothing else of it, tested first",
                before, Script.each("""
                    link ? 9 0 9 ! -1; insert ? 20 ! -1; remove ? 20 ! -1; rekey ? 20 20 ! -1; refer ? 20 9 20 ! -1
                    value ? 20 5 ! -1; rows ? = -1; keyAt ? 20 = -1; referrers ? 20 = -1; wouldGo ? 20 = -1
                    """, -1, 3, MIN, MAX));
            Script.holds("A table that is not 0 to 2, where a call says something else of it",
                before, Script.each("reference ? 20 9 = -2; valueOf ? 1 = 0; sum ? = 0", -1, 3, MIN, MAX));
        }
        Script.holds("A table that is not 0 to 2: -1, with all else as it should be",
            ALL_KINDS, Script.each("""
                link ? 0 0 1 ! -1; link ? 0 0 -1 ! -1; insert ? 5 ! -1; remove ? 1 ! -1; rekey ? 1 5 ! -1
                refer ? 1 0 -1 ! -1; value ? 1 5 ! -1; rows ? = -1; keyAt ? 0 = -1; referrers ? 1 = -1
                wouldGo ? 1 = -1; reference ? 1 0 = -2; valueOf ? 1 = 0; sum ? = 0
                """, -1, 3, MIN, MAX));
    }

    private static void orderOfLink() {
        Script.holds("link: table or 'to' (-1) before column (-2), rule (-3), transaction (-4) and references (-5)",
            ALL_KINDS, "link 3 2 0 0 ! -1; link 0 2 3 0 ! -1; link 3 0 0 4 ! -1; link 0 0 3 4 ! -1; link 0 0 3 -2 ! -1",
            "link 0 0 3 1 ! -1; link 0 0 -1 1 ! -1; begin = 1; link 3 0 0 1 ! -1; link 2 0 3 1 ! -1; link 0 0 3 1 ! -1");
        Script.holds("link: column (-2) before rule (-3) and transaction (-4)",
            ALL_KINDS, "link 0 2 0 4 ! -2; link 0 -1 0 -2 ! -2; begin = 1; link 0 2 0 1 ! -2; link 0 -1 0 -1 ! -2");
        Script.holds("link: rule (-3) before transaction (-4) and references (-5)",
            ALL_KINDS, "link 0 0 0 4 ! -3; link 0 0 0 -2 ! -3; begin = 1; link 1 0 0 4 ! -3; link 0 0 0 -2 ! -3");
        Script.holds("link: transaction (-4) before references (-5)",
            ALL_KINDS, "begin = 1; link 0 0 0 1 ! -4; link 0 0 0 -1 ! -4; rollback = 1; link 0 0 0 1 ! -5",
            "link 0 0 0 -1 ! -5");
    }

    private static void orderOfStatements() {
        Script.holds("insert: key (-2) before the count of rows (-4)",
            Script.rows(0, Script.from(0, 11)), "insert 0 20 ! -2; insert 0 -1 ! -2; insert 0 12 ! -4");
        Script.holds("insert: the table has a row with it (-3) before the count of rows (-4)",
            Script.rows(0, Script.from(0, 11)), "insert 0 0 ! -3; insert 0 11 ! -3; insert 0 19 ! -4");
        Script.holds("remove: no row (-2) after the table (-1)",
            ALL_KINDS, "remove 3 1 ! -1; remove 3 5 ! -1; remove 0 5 ! -2");
        Script.holds("remove: rule 0 (-5) before links (-9)",
            "link 1 0 0 0 = -1; link 1 1 0 3 = -1", Script.rows(0, 1), Script.rows(1, 2),
            "refer 1 2 0 1 = -1; refer 1 2 1 1 = -1; remove 0 1 ! -5; refer 1 2 0 -1 = 1; remove 0 1 ! -9");
        Script.holds("rekey: no row (-2) before the new key (-3) and the row that has it (-4)",
            ALL_KINDS, "rekey 0 5 20 ! -2; rekey 0 5 -1 ! -2; rekey 0 5 2 ! -2; rekey 0 5 5 ! -2; rekey 0 20 20 ! -2");
        Script.holds("rekey: the new key (-3) before rule 0 (-5) and links (-9)",
            ALL_KINDS,
            "rekey 1 1 20 ! -3; rekey 1 1 -1 ! -3; rekey 0 2 20 ! -3; rekey 0 2 -1 ! -3; rekey 1 1 5 ! -5",
            "rekey 0 2 5 ! -9");
        Script.holds("rekey: the table has a row with it (-4) before rule 0 (-5) and links (-9)",
            ALL_KINDS, "rekey 1 1 2 ! -4; rekey 1 1 1 ! -4; rekey 0 2 3 ! -4; rekey 0 2 2 ! -4");
        Script.holds("rekey: rule 0 (-5) before links (-9)",
            "link 1 0 0 0 = -1; link 1 1 0 3 = -1", Script.rows(0, 1), Script.rows(1, 2),
            "refer 1 2 0 1 = -1; refer 1 2 1 1 = -1; rekey 0 1 5 ! -5; refer 1 2 0 -1 = 1; rekey 0 1 5 ! -9");
        Script.holds("refer: no row (-2) before column (-3) and reference (-4)",
            ALL_KINDS, "refer 0 5 2 20 ! -2; refer 0 5 2 1 ! -2; refer 0 5 0 20 ! -2; refer 0 20 -1 -2 ! -2");
        Script.holds("refer: column (-3) before reference (-4) and links (-9)",
            ALL_KINDS, "refer 0 1 2 20 ! -3; refer 0 1 -1 -2 ! -3; refer 0 1 2 19 ! -3");
        Script.holds("refer: reference (-4) before links (-9)",
            ALL_KINDS, "refer 0 1 0 20 ! -4; refer 0 1 1 20 ! -4; refer 0 1 1 -2 ! -4; refer 0 1 1 19 ! -9");
        Script.holds("value: table (-1) before no row (-2)",
            ALL_KINDS, "value 3 5 1 ! -1; value 3 1 1 ! -1; value 0 5 1 ! -2");
    }

    private static void orderOfOthers() {
        Script.holds("mark: none is open (-1) before three are kept (-2)",
            "begin = 1; mark = 1; mark = 2; mark = 3; mark ! -2; commit = 1; mark ! -1",
            "begin = 1; mark = 1; mark = 2; mark = 3; rollback = 1; mark ! -1");
        Script.holds("keyAt: table (-1) before there is none (-2)",
            ALL_KINDS, "keyAt 3 5 = -1; keyAt -1 -1 = -1; keyAt 0 5 = -2");
        Script.holds("reference: table (-2) before no row (-3) before column (-4)",
            ALL_KINDS, "reference 3 5 2 = -2; reference 3 1 2 = -2; reference 3 5 0 = -2; reference 0 5 2 = -3",
            "reference 0 1 2 = -4");
        Script.holds("referrers and wouldGo: table (-1) before no row (-2)",
            ALL_KINDS, "referrers 3 5 = -1; wouldGo 3 5 = -1; referrers 0 5 = -2; wouldGo 0 5 = -2");
    }

    private static void refusedCalls() {
        Script.holds("A refused call changes nothing: outside a transaction", ALL_KINDS, """
            link 3 0 0 0 ! -1; link 0 0 3 0 ! -1; link 2 2 0 0 ! -2; link 2 0 0 4 ! -3; link 0 0 0 -1 ! -5; link 1 1 0 0 ! -5
            insert 3 0 ! -1; insert 0 20 ! -2; insert 0 1 ! -3
            remove 3 1 ! -1; remove 0 4 ! -2; remove 1 1 ! -5; remove 0 2 ! -9
            rekey 3 1 5 ! -1; rekey 0 4 5 ! -2; rekey 0 1 20 ! -3; rekey 0 1 2 ! -4; rekey 1 1 5 ! -5; rekey 0 2 5 ! -9
            refer 3 1 0 1 ! -1; refer 0 4 0 1 ! -2; refer 0 1 2 1 ! -3; refer 0 1 0 20 ! -4
            refer 0 1 0 9 ! -9; refer 0 1 1 9 ! -9; refer 1 1 0 9 ! -9; refer 1 2 1 9 ! -9
            value 3 1 5 ! -1; value 0 4 5 ! -2; mark ! -1; back ! -1; commit ! -1; rollback ! -1
            """);
        Script.holds("A refused call changes nothing: in a transaction", IN_TRANSACTION, """
            link 3 0 0 0 ! -1; link 0 0 3 0 ! -1; link 2 2 0 0 ! -2; link 2 0 0 4 ! -3; link 2 0 0 1 ! -4; link 2 0 0 -1 ! -4
            insert 3 0 ! -1; insert 0 20 ! -2; insert 0 1 ! -3
            remove 3 1 ! -1; remove 0 4 ! -2; remove 1 1 ! -5
            rekey 3 1 5 ! -1; rekey 0 4 5 ! -2; rekey 0 1 20 ! -3; rekey 0 1 2 ! -4; rekey 1 1 5 ! -5
            refer 3 1 0 1 ! -1; refer 0 4 0 1 ! -2; refer 0 1 2 1 ! -3; refer 0 1 0 20 ! -4
            refer 0 1 1 9 ! -9; refer 1 1 0 9 ! -9; refer 1 2 1 9 ! -9
            value 3 1 5 ! -1; value 0 4 5 ! -2; begin ! -1; commit ! -9; mark = 3; mark ! -2; commit ! -9
            """);
        Script.holds("A refused call changes nothing: a full table",
            Script.rows(1, Script.from(0, 11)), "insert 1 12 ! -4; insert 1 19 ! -4");
        Script.holds("A refused call changes nothing: a removal that had much to do before links refuse it",
            "link 0 0 0 1 = -1; link 1 0 0 2 = -1; link 1 1 0 1 = -1; link 2 0 0 3 = -1",
            Script.rows(0, 1, 2, 3), Script.rows(1, 4, 5), Script.rows(2, 6),
            "refer 0 2 0 1 = -1; refer 0 3 0 2 = -1; refer 1 4 0 2 = -1; refer 1 5 1 3 = -1; refer 2 6 0 3 = -1",
            "value 0 2 7 = 1; value 1 5 8 = 1; wouldGo 0 1 = 4; remove 0 1 ! -9; remove 0 3 ! -9; rekey 0 3 9 ! -9",
            "refer 2 6 0 -1 = 3; remove 0 1 = 4; reference 1 4 0 = -1");
    }

    private static void questions() {
        String questions = """
            rows 0 = 3; rows 3 = -1; keyAt 0 0 = 1; keyAt 0 9 = -2; keyAt 3 0 = -1; reference 0 3 1 = -1
            reference 0 9 0 = -3; reference 0 1 2 = -4; reference 3 1 0 = -2; valueOf 1 2 = -12; valueOf 0 9 = 0
            valueOf 3 1 = 0; referrers 0 3 = 1; referrers 0 9 = -2; referrers 3 1 = -1; wouldGo 0 3 = -5
            wouldGo 2 2 = 1; wouldGo 0 9 = -2; wouldGo 3 1 = -1; sum 2 = 13; sum 3 = 0
            """;
        Script.holds("questions; they change nothing: outside a transaction", ALL_KINDS, questions, "dangling = 0");
        Script.holds("questions; they change nothing: in a transaction", IN_TRANSACTION, questions, "dangling = 2");
        Script.holds("questions; they change nothing: of rows that would go with others, and let go",
            "link 1 0 0 1 = -1; link 2 0 1 2 = -1", Script.rows(0, 1), Script.rows(1, 2), Script.rows(2, 3),
            "refer 1 2 0 1 = -1; refer 2 3 0 2 = -1; wouldGo 0 1 = 2; referrers 1 2 = 1; remove 0 1 = 2",
            "wouldGo 2 3 = 1");
    }

    public static void main(String[] args) {
        tableFirst();
        orderOfLink();
        orderOfStatements();
        orderOfOthers();
        refusedCalls();
        questions();
        Script.end();
    }
}
