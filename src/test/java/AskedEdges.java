/** Promises 30 to 35 and what the terms say of KINDS and ASKS: each sentence that names a boundary by itself. */
final class AskedEdges {
    private static final int NONE = DoorVotes.NONE, BAD = DoorVotes.BAD;
    private static final int NULL = -1000011, PLACE = -1000012, KIND = -1000013, SIZE = -1000014, STORE = -1000015;
    /** One of each KIND, numbers 0 to 4 for KINDS 1 to 5, and one more passer. */
    private static final String ALL = "h2,0;d0,1;d0,1;p0,6;f0,5;s0,4;k0,2;n0,1;p0,0;";

    private AskedEdges() {
    }

    static void run() {
        kinds();
        takenAs();
        bodiesOfSize();
        bodiesOfMark();
        theTrace();
        asksAreRefused();
        counts();
        status();
        calls();
    }

    private static void kinds() {
        Check.sentence(30, "The KIND of a PERSON, as told (1 to 5).");
        DoorVotes x = Check.townOf(ALL);
        int[] due = {1, 2, 3, 4, 5, 1};
        for (int p = 0; p < 6; p++) {
            Check.due("kind(" + p + ")", x.kind(p), due[p]);
        }
        Check.sentence(30, "BAD.");
        Check.bounds("kind(?)", v -> x.kind(v), 0, 5);
        Check.due("one that a lesser town has not", Check.townOf("h2,0;d0,1;k0,0;").kind(1), BAD);
    }

    private static void takenAs() {
        Check.sentence(0, "KINDS of PEOPLE: 0 PERSON; 1 PASSER, a PERSON; 2 FOUNDER, a PASSER; 3 SLAMMER, a PASSER; "
                + "4 CHILD, a PERSON; 5 NURSE, a CHILD.");
        DoorVotes x = Check.townOf(ALL);
        String[] is = {"01", "012", "013", "04", "045", "01"};
        for (int p = 0; p < 6; p++) {
            for (int kind = 0; kind < 6; kind++) {
                boolean fits = is[p].indexOf('0' + kind) >= 0;
                Check.due("as(" + p + ", " + kind + ")", x.as(p, kind), fits ? p : KIND);
            }
        }
        Check.sentence(31, "A PERSON is taken as one of a KIND (0 .. 5): its number.");
        Check.due("the first as a person", x.as(0, 0), 0);
        Check.due("the last as a passer", x.as(5, 1), 5);
        Check.due("a nurse as a nurse", x.as(4, 5), 4);
        Check.due("its kind is as it was", x.kind(4), 5);
        Check.sentence(31, "BAD; KIND: it is no such one.");
        Check.bounds("as(?, 0)", v -> x.as(v, 0), 0, 5);
        Check.bounds("as(4, ?)", v -> x.as(4, v), 0, 5);
        Check.due("a passer as a founder", x.as(0, 2), KIND);
        Check.due("a child as a nurse", x.as(3, 5), KIND);
        Check.due("nobody as none", x.as(6, 6), BAD);
    }

    private static void asked(DoorVotes x, int one, int what, int answer, int... trace) {
        String call = "ask(" + one + ", " + what + ")";
        Check.due(call, x.ask(one, what), answer);
        for (int i = 0; i < trace.length; i++) {
            Check.due("trace(" + i + ") behind " + call, x.trace(i), trace[i]);
        }
        Check.due("the end of the trace of " + call, x.trace(trace.length), NONE);
    }

    private static void bodiesOfSize() {
        Check.sentence(0, "0 SIZE: 10 lent to all PEOPLE: all TIMES. 11 of PASSERS: what 10 gives, and MARK. "
                + "12 of FOUNDERS: 0 less what 11 gives. 13 of CHILDREN: what 10 gives, less 100. "
                + "14 of NURSES: what 13 gives, twice.");
        DoorVotes x = Check.townOf(ALL);
        asked(x, 0, 0, 6, 11, 10, 21, 20);
        asked(x, 5, 0, 5, 11, 10, 21, 20);
        asked(x, 1, 0, -12, 12, 11, 10, 24, 21, 20);
        asked(x, 2, 0, -994, 11, 10, 22, 21, 20);
        asked(x, 3, 0, -100, 13, 10);
        asked(x, 4, 0, -200, 14, 13, 10);
        Check.due("the child goes", x.knock(3, 1), 1);
        Check.due("the child goes again", x.knock(3, 1), 1);
        asked(x, 3, 0, -98, 13, 10);
        DoorVotes most = Check.townOf("h2,0;d0,1;d0,1;d0,1;n0,3;");
        for (int k = 0; k < 101; k++) {
            most.knock(0, 0);
            most.knock(0, 1);
        }
        asked(most, 0, 0, 196, 14, 13, 10);
    }

    private static void bodiesOfMark() {
        Check.sentence(0, "1 MARK: 20 lent to all PEOPLE: the number. 21 of PASSERS: what 20 gives, and BENT. "
                + "22 of SLAMMERS: what 21 gives, less 1000. 23 of CHILDREN: what 20 gives, less SIZE. "
                + "24 of FOUNDERS: what 21 gives, twice.");
        DoorVotes x = Check.townOf(ALL);
        asked(x, 0, 1, 6, 21, 20);
        asked(x, 5, 1, 5, 21, 20);
        asked(x, 1, 1, 12, 24, 21, 20);
        asked(x, 2, 1, -994, 22, 21, 20);
        asked(x, 3, 1, 103, 23, 20, 13, 10);
        asked(x, 4, 1, 204, 23, 20, 14, 13, 10);
        Check.sentence(0, "(Of an ask the BODY told for the KIND begins, else that of the nearest KIND that it is, too, "
                + "else the one that is lent; SIZE, MARK within others are asked of the same PERSON anew.)");
        Check.due("a nurse has the mark of a child", x.ask(4, 1), 204);
        Check.due("which begins", x.trace(0), 23);
        Check.due("and asks for its own size", x.trace(2), 14);
        Check.due("a slammer has the size of a passer", x.ask(2, 0), -994);
        Check.due("which begins", x.trace(0), 11);
        Check.due("and asks for its own mark", x.trace(2), 22);
    }

    private static void theTrace() {
        Check.sentence(0, "each of which leaves its number in THE TRACE as it begins (the first 16)");
        DoorVotes x = Check.townOf(ALL);
        Check.due("trace(0) ahead of an ask", x.trace(0), NONE);
        asked(x, 1, 0, -12, 12, 11, 10, 24, 21, 20);
        for (int i = 6; i < 18; i++) {
            Check.due("trace(" + i + ")", x.trace(i), NONE);
        }
        Check.sentence(32, "THE TRACE is empty ahead of it.");
        asked(x, 0, 1, 6, 21, 20);
        Check.due("what an earlier ask left", x.trace(2), NONE);
        Check.due("what an earlier ask left at the end", x.trace(5), NONE);
        Check.sentence(33, "Number i of THE TRACE; NONE.");
        Check.due("trace(0)", x.trace(0), 21);
        Check.due("trace(1)", x.trace(1), 20);
        for (int i : new int[] {-1, 2, 16, Integer.MIN_VALUE, Integer.MAX_VALUE}) {
            Check.due("trace(" + i + ")", x.trace(i), NONE);
        }
        Check.tell(x, "h2,0;d0,1;k0,0;");
        Check.due("it stays behind another town", x.trace(0), 21);
    }

    private static void asksAreRefused() {
        Check.sentence(32, "An ASK (0, 1) of a PERSON.");
        DoorVotes x = Check.townOf(ALL);
        Check.due("size of the first", x.ask(0, 0), 6);
        Check.due("mark of the last", x.ask(5, 1), 5);
        Check.sentence(32, "BAD.");
        Check.bounds("ask(?, 0)", v -> x.ask(v, 0), 0, 5);
        Check.bounds("ask(0, ?)", v -> x.ask(0, v), 0, 1);
        x.ask(3, 0);
        Check.due("ask(6, 0)", x.ask(6, 0), BAD);
        Check.due("ask(3, 2)", x.ask(3, 2), BAD);
        Check.due("what is BAD leaves the trace", x.trace(0), 13);
        Check.due("all of it", x.trace(1), 10);
    }

    private static void counts() {
        Check.sentence(34, "How many: 0 ROWS, 1 ROOMS, 2 DOORS, 3 PEOPLE, 4 DAY, 5 all TIMES, 6 ties, "
                + "7 ACTS that can be undone, 8 bytes on the tape.");
        DoorVotes x = Check.townOf("h6,0;d0,1;d1,2;p0,4;p0,4;p0,4;i0,1;u1,2;");
        x.row(0, 0, 0);
        x.row(7, 0, 1);
        x.row(7, 0, 2);
        x.knock(0, 0);
        x.knock(0, 1);
        x.days(3);
        x.build(0, 5);
        x.feed('h');
        int[] due = {2, 6, 3, 3, 3, 2, 2, 6, 1};
        for (int what = 0; what < 9; what++) {
            Check.due("count(" + what + ")", x.count(what), due[what]);
        }
        x.drop(0);
        x.undo();
        Check.due("rows then", x.count(0), 1);
        Check.due("doors then", x.count(2), 2);
        Check.due("acts then", x.count(7), 5);
        DoorVotes six = Check.townOf(ALL);
        Check.due("the last of six goes", six.knock(5, 1), 1);
        Check.due("all times of six", six.count(5), 1);
        Check.sentence(34, "BAD.");
        Check.bounds("count(?)", v -> x.count(v), 0, 8);
        Check.bounds("count(?) without a town", v -> new DoorVotes().count(v), 0, 8);
    }

    private static void status() {
        Check.sentence(35, "Of the latest call with a ROW, or as(), that was not BAD, STATE, FULL: the number of its "
                + "FINDING; 0: it had none, or there was none.");
        DoorVotes x = new DoorVotes();
        Check.due("there was none", x.status(), 0);
        found(x, "drop", x.drop(0), NULL, 1);
        x.row(8, 0, 0);
        x.set(8, 0, 0);
        x.copy(0, 0, 8, 0, 0);
        x.drop(8);
        x.bents(0, 1, 0, 0, 1, 0);
        x.who(0, 1, 0, 0, 1);
        x.as(0, 0);
        x.days(1);
        x.restore(0);
        x.feed('h');
        x.town();
        Check.due("behind what is BAD or STATE, and calls without a ROW", x.status(), 1);
        Check.tell(x, ALL);
        found(x, "row", x.row(0, 0, 2), 2, 0);
        found(x, "row", x.row(0, 0, -1), SIZE, 4);
        found(x, "set", x.set(0, 1, 1), 1, 0);
        found(x, "set", x.set(0, 2, 1), PLACE, 2);
        x.row(1, 1, 2);
        found(x, "copy", x.copy(0, 0, 1, 0, 1), STORE, 5);
        found(x, "copy", x.copy(0, 0, 0, 0, 1), 1, 0);
        found(x, "copy", x.copy(0, 0, 0, 0, 3), PLACE, 2);
        found(x, "drop", x.drop(1), 2, 0);
        found(x, "as", x.as(0, 5), KIND, 3);
        found(x, "bents", x.bents(0, 1, 0, 0, 2, 0), 0, 0);
        found(x, "bents", x.bents(0, 1, 1, 0, 1, 0), NULL, 1);
        found(x, "who", x.who(0, 1, 0, 0, 1), 0, 0);
        found(x, "who", x.who(0, 1, 0, 2, 1), PLACE, 2);
        found(x, "as", x.as(4, 4), 4, 0);
        found(x, "bents", x.bents(0, 1, 0, 1, 2, 1), PLACE, 2);
        x.ask(0, 0);
        x.kind(0);
        x.knock(0, 0);
        x.count(0);
        x.undo();
        x.gifts(1, 0, 0);
        Check.due("behind calls without a ROW", x.status(), 2);
        Check.due("asked twice", x.status(), 2);
    }

    private static void found(DoorVotes x, String call, int answer, int due, int status) {
        Check.due(call, answer, due);
        Check.due("status() behind " + call + " that answered " + due, x.status(), status);
    }

    private static void calls() {
        Check.sentence(0, "An object is used for at most 512 calls after it has been made");
        DoorVotes x = new DoorVotes();
        Check.due("15 calls and one", Check.tell(x, "h2,0;d0,1;p0,3;"), 1);
        for (int call = 17; call < 511; call++) {
            Check.due("call " + call, x.knock(0, 0), 1);
        }
        Check.due("call 511", x.undo(), 23);
        Check.due("call 512", x.count(5), 99);
    }
}
