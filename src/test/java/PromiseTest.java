/** For each promise of the document: ordinary inputs, the edges that it names, and wrong inputs. */
public final class PromiseTest {
    private static final int MIN = Integer.MIN_VALUE;
    private static final int MAX = Integer.MAX_VALUE;

    private static int wrong = 0;
    private static String part = "";

    private static void due(String call, int got, int want) {
        if (got != want) {
            wrong++;
            System.out.println(part + ": " + call + " answered " + got + ", due is " + want);
        }
    }

    /** A table with rows of these keys. */
    private static void fill(ReferenceTables x, int table, int... keys) {
        for (int key : keys) {
            int before = x.rows(table);
            due("insert(" + table + ", " + key + ")", x.insert(table, key), before + 1);
        }
    }

    private static void newObject() {
        part = "promise 1, a new object";
        ReferenceTables x = new ReferenceTables();
        for (int table = 0; table < 3; table++) {
            due("rows", x.rows(table), 0);
            due("keyAt", x.keyAt(table, 0), -2);
            due("sum", x.sum(table), 0);
        }
        due("dangling", x.dangling(), 0);
        due("mark", x.mark(), -1);
        due("back", x.back(), -1);
        due("commit", x.commit(), -1);
        due("rollback", x.rollback(), -1);
        for (int table = 0; table < 3; table++) {
            for (int column = 0; column < 2; column++) {
                due("link", x.link(table, column, 0, -1), -1);
            }
        }
        ReferenceTables other = new ReferenceTables();
        fill(other, 0, 4);
        due("rows of an object that was not called", x.rows(0), 0);
    }

    private static void linkAnswers() {
        part = "promise 2, link";
        ReferenceTables x = new ReferenceTables();
        for (int table = 0; table < 3; table++) {
            for (int column = 0; column < 2; column++) {
                due("first link", x.link(table, column, 2 - table, 0), -1);
                due("link in place of rule 0", x.link(table, column, table, 1), 0);
                due("link in place of rule 1", x.link(table, column, 0, 2), 1);
                due("link in place of rule 2", x.link(table, column, 1, 3), 2);
                due("link taken away", x.link(table, column, 77, -1), 3);
                due("no link taken away", x.link(table, column, MIN, -1), -1);
            }
        }
    }

    private static void linkRefusals() {
        part = "promise 2, link refused";
        ReferenceTables x = new ReferenceTables();
        for (int bad : new int[] {-1, 3, MIN, MAX}) {
            due("table", x.link(bad, 9, 0, 9), -1);
            due("table, no rule", x.link(bad, 0, 0, -1), -1);
            due("to", x.link(0, 9, bad, 9), -1);
            due("to, rule too low", x.link(0, 0, bad, -2), -1);
        }
        for (int bad : new int[] {-1, 2, MIN, MAX}) {
            due("column", x.link(0, bad, 0, 9), -2);
            due("column, no rule", x.link(0, bad, 9, -1), -2);
        }
        for (int bad : new int[] {-2, 4, MIN, MAX}) {
            due("rule", x.link(0, 0, 0, bad), -3);
        }
        fill(x, 0, 5);
        due("refer", x.refer(0, 5, 0, 3), -1);
        x.begin();
        due("rule before open", x.link(0, 0, 0, 4), -3);
        due("open before used", x.link(0, 0, 0, 1), -4);
        due("open, no rule", x.link(1, 0, 0, -1), -4);
        x.rollback();
        due("used", x.link(0, 0, 0, 1), -5);
        due("used, no rule", x.link(0, 0, 0, -1), -5);
        due("the other column is not used", x.link(0, 1, 0, 1), -1);
        due("the other table is not used", x.link(1, 0, 0, 2), -1);
        due("refer", x.refer(0, 5, 0, -1), 3);
        due("no longer used", x.link(0, 0, 0, 3), -1);
        due("refer to itself", x.refer(0, 5, 0, 5), -1);
        due("used and linked", x.link(0, 0, 1, 0), -5);
        due("remove", x.remove(0, 5), 1);
        due("the row that used it went", x.link(0, 0, 1, 0), 3);
    }

    private static void insertAnswers() {
        part = "promise 3, insert";
        ReferenceTables x = new ReferenceTables();
        due("lowest key", x.insert(0, 0), 1);
        due("highest key", x.insert(0, 19), 2);
        due("same key, other table", x.insert(1, 19), 1);
        due("reference", x.reference(0, 19, 0), -1);
        due("reference", x.reference(0, 19, 1), -1);
        due("valueOf", x.valueOf(0, 19), 0);
        x.refer(0, 19, 0, 4);
        x.refer(0, 19, 1, 5);
        x.value(0, 19, 6);
        due("remove", x.remove(0, 19), 1);
        due("insert again", x.insert(0, 19), 2);
        due("reference of the new row", x.reference(0, 19, 0), -1);
        due("reference of the new row", x.reference(0, 19, 1), -1);
        due("value of the new row", x.valueOf(0, 19), 0);
        x.value(0, 0, 8);
        due("rekey", x.rekey(0, 0, 1), 0);
        due("insert where a row was", x.insert(0, 0), 3);
        due("value of the new row", x.valueOf(0, 0), 0);
    }

    private static void insertRefusals() {
        part = "promise 3, insert refused";
        ReferenceTables x = new ReferenceTables();
        for (int bad : new int[] {-1, 3, MIN, MAX}) {
            due("table", x.insert(bad, 20), -1);
        }
        for (int bad : new int[] {-1, 20, 25, MIN, MAX}) {
            due("key", x.insert(0, bad), -2);
            due("key", x.insert(2, bad), -2);
        }
        fill(x, 2, 0, 1, 2, 3, 4, 5, 6, 7, 8, 9, 10, 11);
        due("key of a full table", x.insert(2, 20), -2);
        due("there already, in a full table", x.insert(2, 11), -3);
        due("full", x.insert(2, 12), -4);
        due("rows", x.rows(2), 12);
        due("another table is not full", x.insert(1, 12), 1);
        due("remove", x.remove(2, 0), 1);
        due("there already", x.insert(2, 11), -3);
        due("no longer full", x.insert(2, 12), 12);
    }

    private static void removeAnswers() {
        part = "promise 4, remove";
        ReferenceTables x = new ReferenceTables();
        x.link(1, 0, 0, 1);
        x.link(1, 1, 0, 2);
        x.link(2, 0, 1, 1);
        x.link(2, 1, 0, 0);
        fill(x, 0, 1, 2);
        fill(x, 1, 3, 4, 5);
        fill(x, 2, 6, 7);
        x.refer(1, 3, 0, 1);
        x.refer(1, 4, 1, 1);
        x.refer(1, 5, 0, 2);
        x.refer(2, 6, 0, 3);
        x.refer(2, 6, 1, 1);
        x.value(1, 4, 44);
        due("the row, who goes with it, and who goes with that", x.remove(0, 1), 3);
        due("rows", x.rows(0), 1);
        due("rows", x.rows(1), 2);
        due("rows", x.rows(2), 1);
        due("keyAt", x.keyAt(1, 0), 4);
        due("keyAt", x.keyAt(2, 0), 7);
        due("who let go of it", x.reference(1, 4, 1), -1);
        due("value of who let go", x.valueOf(1, 4), 44);
        due("reference to another row", x.reference(1, 5, 0), 2);
        due("a row nobody refers to", x.remove(2, 7), 1);
        due("wrong key now", x.remove(2, 7), -2);
    }

    private static void removeCircles() {
        part = "promise 4, remove in circles";
        ReferenceTables x = new ReferenceTables();
        x.link(0, 0, 0, 1);
        x.link(0, 1, 0, 0);
        fill(x, 0, 0, 1, 2, 3, 4, 5, 6, 7, 8, 9, 10, 11);
        for (int key = 0; key < 12; key++) {
            x.refer(0, key, 0, (key + 1) % 12);
        }
        x.refer(0, 3, 1, 3);
        x.refer(0, 4, 1, 9);
        due("rule 0 inside the rows that go", x.wouldGo(0, 5), 12);
        due("all of the circle", x.remove(0, 5), 12);
        due("rows", x.rows(0), 0);

        ReferenceTables y = new ReferenceTables();
        y.link(0, 0, 1, 1);
        y.link(1, 0, 2, 1);
        y.link(2, 1, 0, 1);
        for (int table = 0; table < 3; table++) {
            fill(y, table, 0, 1, 2, 3, 4, 5, 6, 7, 8, 9, 10, 11);
        }
        // One chain through all 36 rows: the last one to be found is 35 steps away.
        for (int key = 0; key < 12; key++) {
            y.refer(0, key, 0, key);
            y.refer(1, key, 0, key);
            if (key > 0) {
                y.refer(2, key, 1, key - 1);
            }
        }
        due("a long chain", y.wouldGo(2, 0), 36);
        due("the end of the chain", y.wouldGo(0, 11), 1);
        due("the end of the chain but one", y.wouldGo(1, 11), 2);
        due("a long chain", y.remove(2, 0), 36);
        due("rows", y.rows(0) + y.rows(1) + y.rows(2), 0);
    }

    private static void removeRefusals() {
        part = "promise 4, remove refused";
        ReferenceTables x = new ReferenceTables();
        x.link(0, 0, 0, 3);
        x.link(1, 0, 0, 1);
        x.link(2, 0, 1, 0);
        x.link(2, 1, 0, 2);
        fill(x, 0, 1, 2);
        fill(x, 1, 3);
        fill(x, 2, 4);
        for (int bad : new int[] {-1, 3, MIN, MAX}) {
            due("table", x.remove(bad, 1), -1);
        }
        for (int bad : new int[] {-1, 0, 3, 20, 21, 22, MIN, MAX}) {
            due("key", x.remove(0, bad), -2);
        }
        due("key of the row in the table before", x.remove(1, -18), -2);
        x.refer(1, 3, 0, 1);
        x.refer(2, 4, 0, 3);
        x.refer(2, 4, 1, 1);
        x.refer(0, 2, 0, 1);
        due("rule 0 refers to who would go with it; rule 0 before links", x.remove(0, 1), -5);
        due("nothing went", x.rows(0) + x.rows(1) + x.rows(2), 4);
        due("nothing was let go of", x.reference(2, 4, 1), 1);
        x.refer(2, 4, 0, -1);
        due("links", x.remove(0, 1), -9);
        due("nothing went", x.rows(0) + x.rows(1) + x.rows(2), 4);
        due("nothing was let go of", x.reference(2, 4, 1), 1);
        due("nobody followed", x.reference(1, 3, 0), 1);
        x.begin();
        due("in a transaction", x.remove(0, 1), 2);
        due("rule 3 does nothing", x.reference(0, 2, 0), 1);
        due("let go of", x.reference(2, 4, 1), -1);
        due("dangling", x.dangling(), 1);
        due("the row that dangles may go", x.remove(0, 2), 1);
        due("commit", x.commit(), 1);
        fill(x, 0, 7);
        x.refer(0, 7, 0, 7);
        due("by rule 3 to itself", x.remove(0, 7), 1);
    }

    private static void rekeyAnswers() {
        part = "promise 5, rekey";
        ReferenceTables x = new ReferenceTables();
        x.link(0, 0, 0, 1);
        x.link(0, 1, 0, 2);
        x.link(1, 0, 0, 1);
        x.link(2, 1, 1, 1);
        fill(x, 0, 1, 2);
        fill(x, 1, 1, 2);
        fill(x, 2, 1);
        x.refer(0, 1, 0, 1);
        x.refer(0, 1, 1, 1);
        x.refer(0, 2, 1, 1);
        x.refer(1, 1, 0, 1);
        x.refer(1, 2, 0, 2);
        x.refer(1, 2, 1, 1);
        x.refer(2, 1, 0, 1);
        x.refer(2, 1, 1, 1);
        x.value(0, 1, -5);
        due("rekey", x.rekey(0, 1, 19), 4);
        due("the old key", x.reference(0, 1, 0), -3);
        due("rows", x.rows(0), 2);
        due("the value", x.valueOf(0, 19), -5);
        due("own reference by rule 1", x.reference(0, 19, 0), 19);
        due("own reference by rule 2", x.reference(0, 19, 1), -1);
        due("rule 2", x.reference(0, 2, 1), -1);
        due("rule 1", x.reference(1, 1, 0), 19);
        due("reference to another row", x.reference(1, 2, 0), 2);
        due("no link", x.reference(1, 2, 1), 1);
        due("no link", x.reference(2, 1, 0), 1);
        due("link to another table", x.reference(2, 1, 1), 1);
        due("nobody refers to it", x.rekey(2, 1, 0), 0);
        due("its references stay", x.reference(2, 0, 1), 1);
        due("to the lowest key", x.rekey(0, 2, 0), 1);
    }

    private static void rekeyRefusals() {
        part = "promise 5, rekey refused";
        ReferenceTables x = new ReferenceTables();
        x.link(0, 0, 0, 0);
        x.link(1, 0, 0, 3);
        x.link(1, 1, 0, 1);
        fill(x, 0, 1, 2);
        fill(x, 1, 5);
        for (int bad : new int[] {-1, 3, MIN, MAX}) {
            due("table", x.rekey(bad, 1, 20), -1);
        }
        for (int bad : new int[] {-1, 0, 20, 21, MIN, MAX}) {
            due("key", x.rekey(0, bad, 20), -2);
        }
        for (int bad : new int[] {-1, 20, MIN, MAX}) {
            due("new key", x.rekey(0, 1, bad), -3);
        }
        x.refer(0, 1, 0, 1);
        x.refer(1, 5, 0, 1);
        due("another row's key; before rule 0", x.rekey(0, 1, 2), -4);
        due("its own key", x.rekey(0, 1, 1), -4);
        due("rule 0 by itself; before links", x.rekey(0, 1, 3), -5);
        x.refer(0, 1, 0, -1);
        x.refer(0, 2, 0, 1);
        due("rule 0 by another row", x.rekey(0, 1, 3), -5);
        due("who refers by rule 0 may get another key", x.rekey(0, 2, 4), 0);
        x.refer(0, 4, 0, -1);
        x.refer(1, 5, 1, 1);
        x.value(0, 1, 9);
        due("links", x.rekey(0, 1, 3), -9);
        due("nobody followed", x.reference(1, 5, 1), 1);
        due("the row is there", x.valueOf(0, 1), 9);
        due("no other one is", x.keyAt(0, 1), 4);
        x.begin();
        due("in a transaction", x.rekey(0, 1, 3), 1);
        due("rule 3 does nothing", x.reference(1, 5, 0), 1);
        due("rule 1 follows", x.reference(1, 5, 1), 3);
        due("commit", x.commit(), -9);
        due("another row gets the key that is missed", x.rekey(0, 4, 1), 0);
        due("commit", x.commit(), 1);
    }

    private static void referAnswers() {
        part = "promise 6, refer";
        ReferenceTables x = new ReferenceTables();
        x.link(0, 0, 1, 0);
        x.link(0, 1, 0, 3);
        fill(x, 0, 0, 19);
        fill(x, 1, 0, 19);
        fill(x, 2, 1);
        due("first", x.refer(0, 0, 0, 19), -1);
        due("second", x.refer(0, 0, 0, 0), 19);
        due("the same again", x.refer(0, 0, 0, 0), 0);
        due("none", x.refer(0, 0, 0, -1), 0);
        due("none again", x.refer(0, 0, 0, -1), -1);
        due("itself", x.refer(0, 19, 1, 19), -1);
        due("the other column", x.reference(0, 19, 0), -1);
        due("no link, no row", x.refer(2, 1, 1, 7), -1);
        due("reference", x.reference(2, 1, 1), 7);
    }

    private static void referRefusals() {
        part = "promise 6, refer refused";
        ReferenceTables x = new ReferenceTables();
        fill(x, 0, 1);
        for (int bad : new int[] {-1, 3, MIN, MAX}) {
            due("table", x.refer(bad, 50, 9, 50), -1);
        }
        for (int bad : new int[] {-1, 0, 20, 21, MIN, MAX}) {
            due("key", x.refer(0, bad, 9, 50), -2);
        }
        for (int bad : new int[] {-1, 2, MIN, MAX}) {
            due("column", x.refer(0, 1, bad, 50), -3);
        }
        for (int bad : new int[] {-2, 20, MIN, MAX}) {
            due("reference", x.refer(0, 1, 0, bad), -4);
        }
        for (int rule = 0; rule < 4; rule++) {
            ReferenceTables y = new ReferenceTables();
            y.link(0, 1, 2, rule);
            fill(y, 0, 4);
            fill(y, 2, 5);
            due("no such row", y.refer(0, 4, 1, 4), -9);
            due("nothing changed", y.reference(0, 4, 1), -1);
            due("such a row", y.refer(0, 4, 1, 5), -1);
            due("no such row", y.refer(0, 4, 1, 6), -9);
            due("nothing changed", y.reference(0, 4, 1), 5);
            y.begin();
            due("in a transaction", y.refer(0, 4, 1, 6), rule == 3 ? 5 : -9);
            due("what it did", y.reference(0, 4, 1), rule == 3 ? 6 : 5);
        }
    }

    private static void valueAnswers() {
        part = "promise 7, value";
        ReferenceTables x = new ReferenceTables();
        fill(x, 1, 0, 19);
        for (int some : new int[] {1, -1, MIN, MAX, 0}) {
            due("value", x.value(1, 19, some), 1);
            due("valueOf", x.valueOf(1, 19), some);
            due("value of the other row", x.valueOf(1, 0), 0);
        }
        for (int bad : new int[] {-1, 3, MIN, MAX}) {
            due("table", x.value(bad, 20, 1), -1);
        }
        for (int bad : new int[] {-1, 1, 20, MIN, MAX}) {
            due("key", x.value(1, bad, 1), -2);
        }
        due("sum", x.sum(1), 0);
    }

    private static void beginAnswers() {
        part = "promise 8, begin";
        ReferenceTables x = new ReferenceTables();
        due("begin", x.begin(), 1);
        due("open", x.begin(), -1);
        fill(x, 0, 3);
        due("open", x.begin(), -1);
        due("rollback", x.rollback(), 1);
        due("a begin that was refused changed nothing", x.rows(0), 0);
        due("begin after rollback", x.begin(), 1);
        due("mark", x.mark(), 1);
        due("open", x.begin(), -1);
        due("mark", x.mark(), 2);
        due("commit", x.commit(), 1);
        due("begin after commit", x.begin(), 1);
        due("no marks from before", x.mark(), 1);
        due("rollback", x.rollback(), 1);
        due("begin", x.begin(), 1);
        due("no marks from before", x.mark(), 1);
    }

    private static void markAndBack() {
        part = "promises 9 and 10, mark and back";
        ReferenceTables x = new ReferenceTables();
        due("mark, none open", x.mark(), -1);
        due("back, none open", x.back(), -1);
        fill(x, 0, 0);
        due("begin", x.begin(), 1);
        for (int count = 1; count <= 3; count++) {
            fill(x, 0, count);
            x.value(0, 0, count);
            x.refer(0, 0, 1, count);
            due("mark", x.mark(), count);
        }
        fill(x, 0, 4);
        x.value(0, 0, 4);
        due("a fourth one", x.mark(), -2);
        for (int count = 3; count >= 1; count--) {
            due("back", x.back(), count - 1);
            due("rows", x.rows(0), count + 1);
            due("valueOf", x.valueOf(0, 0), count);
            due("reference", x.reference(0, 0, 1), count);
        }
        due("back to the begin", x.back(), 0);
        due("rows", x.rows(0), 1);
        due("valueOf", x.valueOf(0, 0), 0);
        fill(x, 0, 7);
        due("back to the begin again", x.back(), 0);
        due("rows", x.rows(0), 1);
        fill(x, 0, 8);
        due("mark after all are gone", x.mark(), 1);
        due("remove", x.remove(0, 0), 1);
        due("back", x.back(), 0);
        due("rows", x.rows(0), 2);
        due("still open", x.begin(), -1);
        due("commit", x.commit(), 1);
        due("rows", x.rows(0), 2);
        due("mark, none open", x.mark(), -1);
        due("back, none open", x.back(), -1);
        due("rows", x.rows(0), 2);
        due("begin", x.begin(), 1);
        fill(x, 0, 9);
        due("back to this begin", x.back(), 0);
        due("rows", x.rows(0), 2);
    }

    private static void commitAnswers() {
        part = "promise 11, commit";
        ReferenceTables x = new ReferenceTables();
        due("none open", x.commit(), -1);
        x.link(0, 0, 1, 3);
        x.link(0, 1, 1, 3);
        x.link(2, 0, 1, 1);
        fill(x, 0, 1);
        fill(x, 2, 0);
        x.begin();
        due("nothing was done", x.commit(), 1);
        due("none open", x.commit(), -1);
        x.begin();
        x.refer(0, 1, 0, 6);
        x.refer(0, 1, 1, 7);
        due("two links", x.commit(), -9);
        due("insert", x.insert(1, 6), 1);
        due("one link", x.commit(), -9);
        due("still open", x.begin(), -1);
        due("nothing changed", x.reference(0, 1, 1), 7);
        due("rule 1 is looked at all the same", x.refer(2, 0, 0, 0), -9);
        due("insert", x.insert(1, 7), 2);
        due("commit", x.commit(), 1);
        due("what was done stays", x.reference(0, 1, 0), 6);
        due("none open", x.rollback(), -1);
        due("rows", x.rows(1), 2);
        due("outside again", x.remove(1, 7), -9);
        x.begin();
        due("inside again", x.remove(1, 7), 1);
        due("commit", x.commit(), -9);
        due("mark after a refused commit", x.mark(), 1);
        due("refer", x.refer(0, 1, 1, -1), 7);
        due("back", x.back(), 0);
        due("commit", x.commit(), -9);
        due("back", x.back(), 0);
        due("commit", x.commit(), 1);
        due("rows", x.rows(1), 2);
    }

    private static void rollbackAnswers() {
        part = "promise 12, rollback";
        ReferenceTables x = new ReferenceTables();
        due("none open", x.rollback(), -1);
        x.link(0, 0, 1, 3);
        x.link(2, 0, 0, 1);
        fill(x, 0, 1, 2);
        fill(x, 1, 3);
        fill(x, 2, 4);
        x.refer(0, 1, 0, 3);
        x.refer(2, 4, 0, 1);
        x.value(0, 1, 11);
        x.begin();
        x.rekey(0, 1, 5);
        x.value(0, 5, 12);
        x.remove(1, 3);
        x.mark();
        x.remove(0, 5);
        x.insert(2, 9);
        due("rollback", x.rollback(), 1);
        due("rows", x.rows(0), 2);
        due("rows", x.rows(1), 1);
        due("rows", x.rows(2), 1);
        due("keyAt", x.keyAt(0, 0), 1);
        due("valueOf", x.valueOf(0, 1), 11);
        due("reference", x.reference(0, 1, 0), 3);
        due("reference", x.reference(2, 4, 0), 1);
        due("dangling", x.dangling(), 0);
        due("none open", x.rollback(), -1);
        due("none open", x.mark(), -1);
        due("link", x.link(1, 0, 0, 0), -1);
        due("rule 3 is looked at at once", x.remove(1, 3), -9);
    }

    private static void rowsAndKeyAt() {
        part = "promises 13 and 14, rows and keyAt";
        ReferenceTables x = new ReferenceTables();
        fill(x, 1, 19, 0, 7, 3);
        due("rows", x.rows(0), 0);
        due("rows", x.rows(1), 4);
        due("rows", x.rows(2), 0);
        int[] rising = {0, 3, 7, 19};
        for (int k = 0; k < 4; k++) {
            due("keyAt", x.keyAt(1, k), rising[k]);
        }
        for (int bad : new int[] {-1, 4, 20, MIN, MAX}) {
            due("k", x.keyAt(1, bad), -2);
        }
        due("no rows", x.keyAt(0, 0), -2);
        due("no rows", x.keyAt(2, 0), -2);
        for (int bad : new int[] {-1, 3, MIN, MAX}) {
            due("table", x.rows(bad), -1);
            due("table", x.keyAt(bad, 50), -1);
        }
        x.remove(1, 3);
        x.rekey(1, 0, 8);
        due("keyAt", x.keyAt(1, 0), 7);
        due("keyAt", x.keyAt(1, 1), 8);
        due("keyAt", x.keyAt(1, 2), 19);
        due("rows", x.rows(1), 3);
    }

    private static void referenceAndValueOf() {
        part = "promises 15 and 16, reference and valueOf";
        ReferenceTables x = new ReferenceTables();
        fill(x, 0, 2);
        fill(x, 2, 2);
        x.refer(0, 2, 0, 0);
        x.refer(0, 2, 1, 19);
        x.value(0, 2, MIN);
        due("reference", x.reference(0, 2, 0), 0);
        due("reference", x.reference(0, 2, 1), 19);
        due("reference", x.reference(2, 2, 0), -1);
        due("valueOf", x.valueOf(0, 2), MIN);
        due("valueOf", x.valueOf(2, 2), 0);
        for (int bad : new int[] {-1, 3, MIN, MAX}) {
            due("table", x.reference(bad, 50, 50), -2);
            due("table", x.valueOf(bad, 2), 0);
        }
        for (int bad : new int[] {-1, 3, 20, 22, 42, -18, MIN, MAX}) {
            due("key", x.reference(0, bad, 50), -3);
            due("key", x.reference(1, bad, 0), -3);
            due("key", x.valueOf(0, bad), 0);
            due("key", x.valueOf(1, bad), 0);
        }
        for (int bad : new int[] {-1, 2, MIN, MAX}) {
            due("column", x.reference(0, 2, bad), -4);
        }
        x.remove(0, 2);
        due("a row that went", x.valueOf(0, 2), 0);
        due("a row that went", x.reference(0, 2, 0), -3);
    }

    private static void referrersAnswers() {
        part = "promise 17, referrers";
        for (int rule = 0; rule < 4; rule++) {
            ReferenceTables x = new ReferenceTables();
            x.link(0, 0, 0, rule);
            x.link(0, 1, 0, 3 - rule);
            x.link(1, 0, 0, rule);
            x.link(2, 0, 1, rule);
            fill(x, 0, 1, 2);
            fill(x, 1, 1);
            fill(x, 2, 1);
            due("nobody", x.referrers(0, 1), 0);
            x.refer(0, 1, 0, 1);
            due("itself", x.referrers(0, 1), 1);
            x.refer(0, 2, 0, 1);
            x.refer(0, 2, 1, 1);
            due("twice by one row", x.referrers(0, 1), 3);
            x.refer(1, 1, 0, 1);
            due("from another table", x.referrers(0, 1), 4);
            x.refer(1, 1, 1, 1);
            x.refer(2, 1, 0, 1);
            due("no link, or to another table", x.referrers(0, 1), 4);
            due("of another table", x.referrers(1, 1), 1);
            due("of another row", x.referrers(0, 2), 0);
            due("of a row without links to it", x.referrers(2, 1), 0);
        }
        ReferenceTables y = new ReferenceTables();
        fill(y, 0, 1);
        for (int bad : new int[] {-1, 3, MIN, MAX}) {
            due("table", y.referrers(bad, 50), -1);
        }
        for (int bad : new int[] {-1, 2, 20, 21, MIN, MAX}) {
            due("key", y.referrers(0, bad), -2);
        }
    }

    private static void wouldGoAnswers() {
        part = "promise 18, wouldGo";
        ReferenceTables x = new ReferenceTables();
        x.link(0, 0, 0, 3);
        x.link(0, 1, 0, 2);
        x.link(1, 0, 0, 1);
        x.link(1, 1, 0, 0);
        fill(x, 0, 1, 2);
        fill(x, 1, 3, 4);
        x.refer(0, 2, 0, 1);
        x.refer(0, 2, 1, 1);
        x.refer(1, 3, 0, 1);
        x.refer(1, 4, 0, 1);
        x.refer(1, 4, 1, 1);
        due("links are not looked at", x.wouldGo(0, 1), 3);
        due("remove looks at them", x.remove(0, 1), -9);
        due("alone", x.wouldGo(0, 2), 1);
        due("nothing went", x.rows(0) + x.rows(1), 4);
        due("nothing was let go of", x.reference(0, 2, 1), 1);
        x.refer(1, 3, 1, 2);
        due("rule 0", x.wouldGo(0, 2), -5);
        due("rule 0 by a row that goes too", x.wouldGo(0, 1), 3);
        x.refer(1, 4, 0, -1);
        due("rule 0 by a row that stays", x.wouldGo(0, 1), -5);
        for (int bad : new int[] {-1, 3, MIN, MAX}) {
            due("table", x.wouldGo(bad, 50), -1);
        }
        for (int bad : new int[] {-1, 0, 20, 21, MIN, MAX}) {
            due("key", x.wouldGo(0, bad), -2);
        }
    }

    private static void danglingAnswers() {
        part = "promise 19, dangling";
        ReferenceTables x = new ReferenceTables();
        x.link(0, 0, 2, 3);
        x.link(0, 1, 0, 3);
        fill(x, 0, 1, 2);
        fill(x, 1, 1);
        x.refer(1, 1, 0, 13);
        due("no link", x.dangling(), 0);
        x.begin();
        x.refer(0, 1, 0, 1);
        due("one", x.dangling(), 1);
        x.refer(0, 2, 0, 1);
        due("two to the same key", x.dangling(), 2);
        x.refer(0, 2, 1, 9);
        due("three", x.dangling(), 3);
        x.refer(0, 1, 1, 1);
        due("to itself", x.dangling(), 3);
        x.insert(2, 1);
        due("a row for two of them", x.dangling(), 1);
        x.remove(0, 2);
        due("the row went", x.dangling(), 0);
        x.rekey(2, 1, 4);
        due("another key", x.dangling(), 1);
        x.rollback();
        due("rolled back", x.dangling(), 0);
    }

    private static void sumAnswers() {
        part = "promise 20, sum";
        ReferenceTables x = new ReferenceTables();
        fill(x, 0, 0);
        fill(x, 1, 0, 19);
        fill(x, 2, 0);
        x.value(0, 0, 100);
        x.value(1, 0, 3);
        x.value(1, 19, -5);
        x.value(2, 0, 1000);
        due("sum", x.sum(0), 100);
        due("sum", x.sum(1), -2);
        due("sum", x.sum(2), 1000);
        x.value(1, 0, MAX);
        x.value(1, 19, 1);
        due("wraps", x.sum(1), MIN);
        x.value(1, 19, MAX);
        due("wraps", x.sum(1), -2);
        x.remove(1, 19);
        due("without the row that went", x.sum(1), MAX);
        x.rekey(1, 0, 5);
        due("not twice", x.sum(1), MAX);
        for (int bad : new int[] {-1, 3, MIN, MAX}) {
            due("table", x.sum(bad), 0);
        }
    }

    private static void soundnessInTransactions() {
        part = "terms, links that are not sound before a statement";
        ReferenceTables x = new ReferenceTables();
        x.link(0, 0, 1, 3);
        x.link(0, 1, 1, 0);
        x.link(2, 0, 1, 2);
        fill(x, 0, 1, 2);
        fill(x, 1, 5, 6);
        fill(x, 2, 7);
        x.begin();
        due("rule 3", x.refer(0, 1, 0, 9), -1);
        due("rule 3, no longer sound", x.refer(0, 2, 0, 9), -1);
        due("rule 0", x.refer(0, 1, 1, 9), -9);
        due("rule 2", x.refer(2, 7, 0, 9), -9);
        due("rule 0", x.refer(0, 1, 1, 5), -1);
        due("rule 0", x.remove(1, 5), -5);
        due("a refused statement changed nothing else", x.dangling(), 2);
        due("value is not refused", x.value(0, 1, 4), 1);
        due("rekey of a row with dangling references", x.rekey(0, 1, 3), 0);
        due("its reference", x.reference(0, 3, 0), 9);
        due("commit", x.commit(), -9);
        due("the missed key", x.rekey(1, 6, 9), 0);
        due("commit", x.commit(), 1);
        due("referrers", x.referrers(1, 9), 2);
    }

    public static void main(String[] args) {
        newObject();
        linkAnswers();
        linkRefusals();
        insertAnswers();
        insertRefusals();
        removeAnswers();
        removeCircles();
        removeRefusals();
        rekeyAnswers();
        rekeyRefusals();
        referAnswers();
        referRefusals();
        valueAnswers();
        beginAnswers();
        markAndBack();
        commitAnswers();
        rollbackAnswers();
        rowsAndKeyAt();
        referenceAndValueOf();
        referrersAnswers();
        wouldGoAnswers();
        danglingAnswers();
        sumAnswers();
        soundnessInTransactions();
        System.out.println(wrong == 0 ? "all answers are as due" : wrong + " answers are not as due");
        if (wrong != 0) {
            System.exit(1);
        }
    }
}
