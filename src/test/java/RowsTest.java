/** Promises 1 to 5, and 35 as far as ROWS go. */
public final class RowsTest {
    private static final int NULL = -1000011, PLACE = -1000012, SIZE = -1000014, STORE = -1000015;
    private static final int BAD = DoorVotes.BAD;
    private static final String PROBES = Check.PROBES;
    private static final int OTHER = Check.OTHER;

    private RowsTest() {
    }

    public static void main(String[] args) {
        aNewObjectHasNothing();
        rowsAreMade();
        rowsAreRefused();
        itemsAreCut();
        setIsRefused();
        itemsAreCopied();
        copiesAreRefused();
        rowsAreDropped();
        statusTellsTheLatest();
        Check.end();
    }

    private static void aNewObjectHasNothing() {
        DoorVotes x = new DoorVotes();
        for (int what = 0; what < 9; what++) {
            Check.due("count(" + what + ") of a new object", x.count(what), 0);
        }
        for (int row = 0; row < 8; row++) {
            Check.due("drop(" + row + ") of a new object", x.drop(row), NULL);
        }
        x = new DoorVotes();
        Check.due("status() of a new object", x.status(), 0);
        Check.due("fault() of a new object", x.fault(), 0);
        Check.due("trace(0) of a new object", x.trace(0), DoorVotes.NONE);
        Check.due("undo() of a new object", x.undo(), DoorVotes.STATE);
        Check.due("locked() of a new object", x.locked(), DoorVotes.STATE);
        Check.due("person(0, 0) of a new object", x.person(0, 0), BAD);
        Check.due("door(0, 0) of a new object", x.door(0, 0), BAD);
    }

    private static void rowsAreMade() {
        DoorVotes x = Check.townOf(PROBES);
        Check.due("row(0, 0, 3)", x.row(0, 0, 3), 3);
        Check.due("count(0)", x.count(0), 1);
        Check.items("new", x, 0, 0, 0, 0);
        x.set(0, 1, 1);
        Check.items("set", x, 0, 0, 1, 0);
        Check.due("row(0, 2, 2)", x.row(0, 2, 2), 2);
        Check.items("in its place", x, 0, 0, 0);
        Check.due("count(0) then", x.count(0), 1);
        Check.due("row(7, 1, 40)", x.row(7, 1, 40), 40);
        Check.due("set(7, 39, 1)", x.set(7, 39, 1), 1);
        Check.due("set(7, 40, 1)", x.set(7, 40, 1), PLACE);
        Check.due("row(3, 0, 0)", x.row(3, 0, 0), 0);
        Check.due("set(3, 0, 1)", x.set(3, 0, 1), PLACE);
        Check.due("count(0) of three", x.count(0), 3);
    }

    private static void rowsAreRefused() {
        DoorVotes x = Check.townOf(PROBES);
        x.row(0, 0, 2);
        x.set(0, 0, 1);
        String before = Check.told(x);
        Check.due("row(-1, 0, 1)", x.row(-1, 0, 1), BAD);
        Check.due("row(8, 0, 1)", x.row(8, 0, 1), BAD);
        Check.due("row(0, -1, 1)", x.row(0, -1, 1), BAD);
        Check.due("row(0, 3, 1)", x.row(0, 3, 1), BAD);
        Check.due("row(0, 0, 41)", x.row(0, 0, 41), BAD);
        Check.due("row(8, 0, -1)", x.row(8, 0, -1), BAD);
        Check.due("row(0, 3, -1)", x.row(0, 3, -1), BAD);
        Check.due("status() behind what is BAD", x.status(), 0);
        Check.due("row(0, 1, -1)", x.row(0, 1, -1), SIZE);
        Check.due("status() behind SIZE", x.status(), 4);
        Check.due("row(5, 1, MIN)", x.row(5, 1, Integer.MIN_VALUE), SIZE);
        Check.unchanged("what row refuses", x, before);
        Check.items("refused", x, 0, 1, 0);
        Check.due("its lane is as it was", x.set(0, 0, 200), -56);
    }

    private static void itemsAreCut() {
        DoorVotes x = new DoorVotes();
        x.row(0, 0, 1);
        x.row(1, 1, 1);
        x.row(2, 2, 1);
        int[] given = {0, 127, 128, 255, 256, -129, 32767, 32768, 65535, 65536, Integer.MIN_VALUE};
        int[] bytes = {0, 127, -128, -1, 0, 127, -1, 0, -1, 0, 0};
        int[] shorts = {0, 127, 128, 255, 256, -129, 32767, -32768, -1, 0, 0};
        for (int k = 0; k < given.length; k++) {
            Check.due("set(0, 0, " + given[k] + ")", x.set(0, 0, given[k]), bytes[k]);
            Check.due("set(1, 0, " + given[k] + ")", x.set(1, 0, given[k]), shorts[k]);
            Check.due("set(2, 0, " + given[k] + ")", x.set(2, 0, given[k]), given[k]);
        }
        DoorVotes y = Check.townOf(PROBES);
        y.row(0, 0, 4);
        y.set(0, 0, 257);
        y.set(0, 1, 255);
        y.set(0, 2, 512);
        y.set(0, 3, 130);
        Check.items("cut", y, 0, 1, -1, 0, OTHER);
    }

    private static void setIsRefused() {
        DoorVotes x = Check.townOf(PROBES);
        x.row(0, 0, 2);
        String before = Check.told(x);
        Check.due("set(-1, 0, 1)", x.set(-1, 0, 1), BAD);
        Check.due("set(8, 0, 1)", x.set(8, 0, 1), BAD);
        Check.due("set(1, 0, 1)", x.set(1, 0, 1), NULL);
        Check.due("status() behind NULL", x.status(), 1);
        Check.due("set(1, -1, 1)", x.set(1, -1, 1), NULL);
        Check.due("set(0, -1, 1)", x.set(0, -1, 1), PLACE);
        Check.due("status() behind PLACE", x.status(), 2);
        Check.due("set(0, 2, 1)", x.set(0, 2, 1), PLACE);
        Check.due("set(0, MAX, 1)", x.set(0, Integer.MAX_VALUE, 1), PLACE);
        Check.unchanged("what set refuses", x, before);
        Check.items("refused", x, 0, 0, 0);
    }

    private static DoorVotes pattern() {
        DoorVotes x = Check.townOf(PROBES);
        x.row(0, 0, 4);
        x.row(1, 0, 5);
        x.set(0, 0, 1);
        x.set(0, 2, -1);
        x.set(0, 3, 1);
        return x;
    }

    private static void itemsAreCopied() {
        DoorVotes x = pattern();
        Check.due("copy(0, 0, 1, 1, 4)", x.copy(0, 0, 1, 1, 4), 4);
        Check.items("copied", x, 1, 0, 1, 0, -1, 1);
        Check.items("the source", x, 0, 1, 0, -1, 1);
        Check.due("copy(0, 0, 0, 1, 3)", x.copy(0, 0, 0, 1, 3), 3);
        Check.items("up within one row", x, 0, 1, 1, 0, -1);
        Check.due("copy(1, 1, 1, 0, 4)", x.copy(1, 1, 1, 0, 4), 4);
        Check.items("down within one row", x, 1, 1, 0, -1, 1, 1);
        Check.due("copy(0, 4, 1, 5, 0)", x.copy(0, 4, 1, 5, 0), 0);
        Check.due("copy(0, 1, 0, 1, 2)", x.copy(0, 1, 0, 1, 2), 2);
        Check.items("onto itself", x, 0, 1, 1, 0, -1);
    }

    private static void copiesAreRefused() {
        DoorVotes x = pattern();
        x.row(2, 1, 4);
        String before = Check.told(x);
        int max = Integer.MAX_VALUE;
        Check.due("copy(-1, 0, 1, 0, 1)", x.copy(-1, 0, 1, 0, 1), BAD);
        Check.due("copy(0, 0, 8, 0, 1)", x.copy(0, 0, 8, 0, 1), BAD);
        Check.due("copy(3, 0, 8, 0, 1)", x.copy(3, 0, 8, 0, 1), BAD);
        Check.due("copy(3, 0, 1, 0, 1)", x.copy(3, 0, 1, 0, 1), NULL);
        Check.due("copy(2, 0, 3, -1, 1)", x.copy(2, 0, 3, -1, 1), NULL);
        Check.due("copy(0, 0, 2, 0, 1)", x.copy(0, 0, 2, 0, 1), STORE);
        Check.due("status() behind STORE", x.status(), 5);
        Check.due("copy(0, 9, 2, 0, 0)", x.copy(0, 9, 2, 0, 0), STORE);
        int[][] places = {{-1, 0, 1}, {0, -1, 1}, {0, 0, -1}, {0, 0, 5}, {1, 0, 4}, {0, 2, 4}, {5, 0, 0}, {0, 6, 0},
            {max, 0, 1}, {0, max, 1}, {0, 0, max}, {max, max, max}, {1, 1, max}, {Integer.MIN_VALUE, 0, 1}};
        for (int[] p : places) {
            Check.due("copy(0, " + p[0] + ", 1, " + p[1] + ", " + p[2] + ")", x.copy(0, p[0], 1, p[1], p[2]), PLACE);
        }
        Check.due("status() behind PLACE", x.status(), 2);
        Check.unchanged("what copy refuses", x, before);
        Check.items("refused", x, 0, 1, 0, -1, 1);
        Check.items("refused", x, 1, 0, 0, 0, 0, 0);
    }

    private static void rowsAreDropped() {
        DoorVotes x = pattern();
        Check.due("drop(1)", x.drop(1), 5);
        Check.due("count(0)", x.count(0), 1);
        Check.due("drop(1) again", x.drop(1), NULL);
        Check.due("set(1, 0, 1)", x.set(1, 0, 1), NULL);
        Check.due("status() behind NULL", x.status(), 1);
        Check.due("drop(-1)", x.drop(-1), BAD);
        Check.due("drop(8)", x.drop(8), BAD);
        Check.due("status() behind BAD", x.status(), 1);
        Check.due("drop(0)", x.drop(0), 4);
        Check.due("status() behind a drop", x.status(), 0);
        Check.due("row(0, 0, 4)", x.row(0, 0, 4), 4);
        Check.items("made anew", x, 0, 0, 0, 0, 0);
    }

    private static void statusTellsTheLatest() {
        DoorVotes x = Check.townOf(PROBES);
        x.row(0, 0, 1);
        x.set(0, 1, 0);
        Check.due("status()", x.status(), 2);
        x.knock(0, 0);
        x.feed(1);
        x.count(0);
        x.row(9, 0, 0);
        Check.due("status() behind calls without a row", x.status(), 2);
        x.set(0, 0, 7);
        Check.due("status() behind a set", x.status(), 0);
        x.as(1, 2);
        Check.due("status() behind as", x.status(), 3);
        x.as(9, 2);
        Check.due("status() behind a BAD as", x.status(), 3);
        x.who(2, 1, 0, 0, 1);
        Check.due("status() behind who", x.status(), 0);
        x.bents(2, 1, 1, 0, 1, 0);
        Check.due("status() behind bents without a row", x.status(), 1);
        x.as(0, 2);
        Check.due("status() behind as of a founder", x.status(), 0);
    }
}
