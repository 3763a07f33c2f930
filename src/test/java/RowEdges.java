/** Promises 1 to 5 and what the terms say of ROWS: each sentence that names a boundary by itself. */
final class RowEdges {
    private static final int BAD = DoorVotes.BAD, STATE = DoorVotes.STATE;
    private static final int NULL = -1000011, PLACE = -1000012, SIZE = -1000014, STORE = -1000015;
    private static final int MIN = Integer.MIN_VALUE, MAX = Integer.MAX_VALUE;

    private RowEdges() {
    }

    static void run() {
        aNewObjectHasNoTown();
        rowsAreMissingAtFirst();
        lanesHaveTheirBits();
        aRowHas0To40Items();
        itemsAre0AtFirst();
        aRowComesInPlaceOfWhatIsThere();
        rowIsRefused();
        itemsAreCutToTheirLane();
        setIsRefused();
        itemsComeAsTheyWereAhead();
        copyMayEndAtAnEnd();
        copyIsRefused();
        aRowIsDropped();
        dropIsRefused();
    }

    private static void aNewObjectHasNoTown() {
        Check.sentence(1, "No TOWN.");
        DoorVotes x = new DoorVotes();
        for (int what = 1; what <= 7; what++) {
            Check.due("count(" + what + ")", x.count(what), 0);
        }
        Check.due("locked()", x.locked(), STATE);
        Check.due("days(1)", x.days(1), STATE);
        Check.due("drawn(0, 1, 0)", x.drawn(0, 1, 0), STATE);
        Check.due("image(0)", x.image(0), STATE);
        Check.due("person(0, 0)", x.person(0, 0), BAD);
        Check.due("door(0, 0)", x.door(0, 0), BAD);
        Check.due("build(0, 1)", x.build(0, 1), BAD);
        Check.due("way(0, 0, 0)", x.way(0, 0, 0), BAD);
        Check.due("kind(0)", x.kind(0), BAD);
        Check.due("as(0, 0)", x.as(0, 0), BAD);
    }

    private static void rowsAreMissingAtFirst() {
        Check.sentence(0, "ROWS 0 .. 7 are missing (at first)");
        DoorVotes x = new DoorVotes();
        for (int row = 0; row < 8; row++) {
            Check.due("set in row " + row, x.set(row, 0, 0), NULL);
            Check.due("copy of none of row " + row, x.copy(row, 0, row, 0, 0), NULL);
            Check.due("drop(" + row + ")", x.drop(row), NULL);
        }
        for (int row = 0; row < 8; row++) {
            Check.due("count(0)", x.count(0), row);
            Check.due("row(" + row + ", 0, 1)", x.row(row, 0, 1), 1);
        }
        Check.due("count(0) of all", x.count(0), 8);
    }

    private static void lanesHaveTheirBits() {
        Check.sentence(0, "or have a LANE (0 bytes, 1 shorts, 2 ints)");
        DoorVotes x = new DoorVotes();
        int[] least = {-128, -32768, MIN};
        int[] most = {127, 32767, MAX};
        for (int lane = 0; lane < 3; lane++) {
            x.row(lane, lane, 1);
            Check.due("the least of lane " + lane, x.set(lane, 0, least[lane]), least[lane]);
            Check.due("the most of lane " + lane, x.set(lane, 0, most[lane]), most[lane]);
            Check.due("one beyond the most of lane " + lane, x.set(lane, 0, most[lane] + 1), least[lane]);
            Check.due("one beyond the least of lane " + lane, x.set(lane, 0, least[lane] - 1), most[lane]);
        }
    }

    private static void aRowHas0To40Items() {
        Check.sentence(0, "and 0 to 40 ITEMS");
        DoorVotes x = new DoorVotes();
        Check.due("row(0, 0, 0)", x.row(0, 0, 0), 0);
        Check.due("a row of none is there", x.count(0), 1);
        Check.due("its first item", x.set(0, 0, 1), PLACE);
        Check.due("row(1, 2, 40)", x.row(1, 2, 40), 40);
        Check.due("its last item", x.set(1, 39, 5), 5);
        Check.due("behind it", x.set(1, 40, 5), PLACE);
        Check.due("row(2, 1, 41)", x.row(2, 1, 41), BAD);
        Check.due("rows", x.count(0), 2);
    }

    private static void itemsAre0AtFirst() {
        Check.sentence(0, "ITEMS, 0 at first.");
        DoorVotes x = Check.townOf(Check.PROBES);
        x.row(0, 0, 40);
        for (int i = 0; i < 40; i++) {
            Check.due("item " + i, Check.item(x, 0, i), 0);
        }
        for (int i = 0; i < 40; i++) {
            x.set(0, i, 1);
        }
        x.row(0, 0, 40);
        for (int i = 0; i < 40; i += 13) {
            Check.due("item " + i + " of another row", Check.item(x, 0, i), 0);
        }
    }

    private static void aRowComesInPlaceOfWhatIsThere() {
        Check.sentence(2, "A ROW of a LANE with n ITEMS, in place of what is there: n.");
        DoorVotes x = Check.townOf(Check.PROBES);
        x.row(0, 2, 3);
        x.set(0, 0, 1);
        x.set(0, 2, 1);
        Check.due("a shorter one of bytes", x.row(0, 0, 1), 1);
        Check.items("shorter", x, 0, 0);
        Check.due("its lane", x.set(0, 0, 257), 1);
        Check.due("a longer one of shorts", x.row(0, 1, 4), 4);
        Check.items("longer", x, 0, 0, 0, 0, 0);
        Check.due("its lane", x.set(0, 0, 65537), 1);
        Check.due("there is one row", x.count(0), 1);
        Check.due("one of none", x.row(0, 1, 0), 0);
        Check.due("it had", x.drop(0), 0);
        Check.due("one where a row was dropped", x.row(0, 0, 2), 2);
        Check.items("dropped", x, 0, 0, 0);
    }

    private static void rowIsRefused() {
        Check.sentence(2, "BAD: ROW, LANE, n above 40; SIZE.");
        DoorVotes x = new DoorVotes();
        Check.bounds("row(?, 0, 1)", v -> x.row(v, 0, 1), 0, 7);
        Check.bounds("row(0, ?, 1)", v -> x.row(0, v, 1), 0, 2);
        Check.due("row(0, 0, MAX)", x.row(0, 0, MAX), BAD);
        Check.due("row(0, 0, 41)", x.row(0, 0, 41), BAD);
        Check.due("row(0, 0, 40)", x.row(0, 0, 40), 40);
        Check.due("row(0, 0, -1)", x.row(0, 0, -1), SIZE);
        Check.due("row(0, 0, MIN)", x.row(0, 0, MIN), SIZE);
        Check.due("row(8, 0, -1)", x.row(8, 0, -1), BAD);
        Check.due("row(0, 3, -1)", x.row(0, 3, -1), BAD);
        Check.due("what was there has its items yet", x.drop(0), 40);
    }

    private static void itemsAreCutToTheirLane() {
        Check.sentence(3, "ITEM i becomes v, its lowest bits, as many as the LANE has: what it is then.");
        DoorVotes x = Check.townOf(Check.PROBES);
        x.row(0, 0, 5);
        Check.due("128 as a byte", x.set(0, 0, 128), -128);
        Check.due("256 as a byte", x.set(0, 1, 256), 0);
        Check.due("257 as a byte", x.set(0, 2, 257), 1);
        Check.due("MAX as a byte", x.set(0, 3, MAX), -1);
        Check.due("MIN as a byte", x.set(0, 4, MIN), 0);
        Check.items("bytes", x, 0, Check.OTHER, 0, 1, -1, 0);
        x.row(1, 1, 4);
        Check.due("32768 as a short", x.set(1, 0, 32768), -32768);
        Check.due("65536 as a short", x.set(1, 1, 65536), 0);
        Check.due("-65535 as a short", x.set(1, 2, -65535), 1);
        Check.due("-65537 as a short", x.set(1, 3, -65537), -1);
        Check.items("shorts", x, 1, Check.OTHER, 0, 1, -1);
        x.row(2, 2, 1);
        Check.due("256 as an int", x.set(2, 0, 256), 256);
        Check.items("ints", x, 2, Check.OTHER);
    }

    private static void setIsRefused() {
        Check.sentence(3, "BAD: ROW; NULL; PLACE.");
        DoorVotes x = Check.townOf(Check.PROBES);
        for (int row = 0; row < 7; row++) {
            x.row(row, 0, 2);
        }
        Check.bounds("set(?, 0, 0)", v -> x.set(v, 0, 0), 0, 7);
        Check.due("a missing row", x.set(7, 0, 1), NULL);
        Check.due("no place of a missing row", x.set(7, -1, 1), NULL);
        Check.due("ahead of the first", x.set(0, -1, 1), PLACE);
        Check.due("behind the last", x.set(0, 2, 1), PLACE);
        Check.due("far behind it", x.set(0, MAX, 1), PLACE);
        Check.due("far ahead", x.set(0, MIN, 1), PLACE);
        Check.due("the last", x.set(0, 1, 1), 1);
        Check.items("what is left", x, 0, 0, 1);
    }

    private static DoorVotes rowsToCopy() {
        DoorVotes x = Check.townOf(Check.PROBES);
        x.row(0, 0, 4);
        x.set(0, 0, 1);
        x.set(0, 2, -1);
        x.set(0, 3, 1);
        x.row(1, 0, 3);
        x.row(2, 1, 4);
        return x;
    }

    private static void itemsComeAsTheyWereAhead() {
        Check.sentence(4, "n ITEMS of a from i on come to b from j on, as they were ahead: n.");
        DoorVotes x = rowsToCopy();
        Check.due("one step up", x.copy(0, 0, 0, 1, 3), 3);
        Check.items("one step up", x, 0, 1, 1, 0, -1);
        x = rowsToCopy();
        Check.due("one step down", x.copy(0, 1, 0, 0, 3), 3);
        Check.items("one step down", x, 0, 0, -1, 1, 1);
        x = rowsToCopy();
        Check.due("where it is", x.copy(0, 0, 0, 0, 4), 4);
        Check.items("where it is", x, 0, 1, 0, -1, 1);
        Check.due("to another row", x.copy(0, 2, 1, 1, 2), 2);
        Check.items("to another row", x, 1, 0, -1, 1);
        Check.items("what it came from", x, 0, 1, 0, -1, 1);
    }

    private static void copyMayEndAtAnEnd() {
        Check.sentence(4, "or beyond an end");
        DoorVotes x = rowsToCopy();
        Check.due("none from an end to an end", x.copy(0, 4, 1, 3, 0), 0);
        Check.due("none from beyond an end", x.copy(0, 5, 1, 3, 0), PLACE);
        Check.due("none to beyond an end", x.copy(0, 4, 1, 4, 0), PLACE);
        Check.due("all to the end of b", x.copy(0, 1, 1, 0, 3), 3);
        Check.due("one beyond the end of a", x.copy(0, 2, 1, 0, 3), PLACE);
        Check.due("one beyond the end of b", x.copy(0, 1, 1, 1, 3), PLACE);
        Check.due("n beyond all", x.copy(0, 1, 1, 1, MAX), PLACE);
        Check.due("i beyond all", x.copy(0, MAX, 1, 0, MAX), PLACE);
        Check.due("j beyond all", x.copy(0, 0, 1, MAX, 1), PLACE);
        Check.items("what is left", x, 1, 0, -1, 1);
        x.row(4, 0, 0);
        Check.due("none of a row of none", x.copy(4, 0, 4, 0, 0), 0);
        Check.due("one of a row of none", x.copy(4, 0, 0, 0, 1), PLACE);
        Check.due("one to a row of none", x.copy(0, 0, 4, 0, 1), PLACE);
    }

    private static void copyIsRefused() {
        Check.sentence(4, "BAD: ROWS; NULL; STORE; PLACE (i, j, n below 0, or beyond an end).");
        DoorVotes x = rowsToCopy();
        x.row(7, 0, 4);
        Check.bounds("copy(?, 0, 0, 0, 0)", v -> x.copy(v, 0, 0, 0, 0), 0, 7);
        Check.bounds("copy(0, 0, ?, 0, 0)", v -> x.copy(0, 0, v, 0, 0), 0, 7);
        Check.due("a missing row to none that there is", x.copy(3, 0, 8, 0, 0), BAD);
        Check.due("from a missing row", x.copy(3, 0, 0, 0, 0), NULL);
        Check.due("to a missing row", x.copy(0, 0, 3, 0, 0), NULL);
        Check.due("to a missing row, and no place", x.copy(0, -1, 3, 0, 9), NULL);
        Check.due("none of two lanes", x.copy(0, 0, 2, 0, 0), STORE);
        Check.due("two lanes, and no place", x.copy(2, -1, 0, 9, -1), STORE);
        Check.due("i below 0", x.copy(0, -1, 1, 0, 1), PLACE);
        Check.due("j below 0", x.copy(0, 0, 1, -1, 1), PLACE);
        Check.due("n below 0", x.copy(0, 1, 1, 1, -1), PLACE);
        Check.due("n far below 0", x.copy(0, 0, 1, 0, MIN), PLACE);
        Check.due("i below 0, of none", x.copy(0, -1, 1, 0, 0), PLACE);
        Check.items("what is left", x, 1, 0, 0, 0);
    }

    private static void aRowIsDropped() {
        Check.sentence(5, "A ROW is missing from now on: how many ITEMS it had.");
        DoorVotes x = new DoorVotes();
        int[] sizes = {0, 1, 40};
        for (int n : sizes) {
            x.row(7, 2, n);
            Check.due("drop of " + n, x.drop(7), n);
            Check.due("rows", x.count(0), 0);
            Check.due("set then", x.set(7, 0, 1), NULL);
            Check.due("copy then", x.copy(7, 0, 7, 0, 0), NULL);
        }
    }

    private static void dropIsRefused() {
        Check.sentence(5, "BAD; NULL.");
        DoorVotes x = new DoorVotes();
        Check.bounds("drop(?)", v -> x.drop(v), 0, 7);
        x.row(3, 0, 5);
        Check.due("drop(2)", x.drop(2), NULL);
        Check.due("drop(3)", x.drop(3), 5);
        Check.due("drop(3) again", x.drop(3), NULL);
    }
}
