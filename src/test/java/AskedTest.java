/** Promises 30 to 35: KINDS, ASKS and THE TRACE, counts and status. */
public final class AskedTest {
    private static final int NONE = DoorVotes.NONE, BAD = DoorVotes.BAD;
    private static final int KIND = -1000013;
    private static final String ALL = "h2,0;d0,1;d0,1;p0,1;f0,2;s0,3;k1,4;n1,5;";

    private AskedTest() {
    }

    public static void main(String[] args) {
        kinds();
        takenAs();
        asksAtFirst();
        asksWithTimes();
        theTraceIsKept();
        counts();
        constants();
        Check.end();
    }

    private static void kinds() {
        DoorVotes x = Check.townOf(ALL);
        for (int p = 0; p < 5; p++) {
            Check.due("kind(" + p + ")", x.kind(p), p + 1);
        }
        Check.due("kind(5)", x.kind(5), BAD);
        Check.due("kind(-1)", x.kind(-1), BAD);
    }

    private static void takenAs() {
        DoorVotes x = Check.townOf(ALL);
        String[] fits = {"01", "012", "013", "04", "045"};
        String before = Check.told(x);
        for (int p = 0; p < 5; p++) {
            for (int kind = 0; kind < 6; kind++) {
                boolean is = fits[p].indexOf('0' + kind) >= 0;
                Check.due("as(" + p + ", " + kind + ")", x.as(p, kind), is ? p : KIND);
                Check.due("status()", x.status(), is ? 0 : 3);
            }
        }
        x.as(0, 5);
        Check.due("as(5, 0)", x.as(5, 0), BAD);
        Check.due("as(-1, 0)", x.as(-1, 0), BAD);
        Check.due("as(0, 6)", x.as(0, 6), BAD);
        Check.due("as(0, -1)", x.as(0, -1), BAD);
        Check.due("status() behind BAD", x.status(), 3);
        Check.unchanged("as", x, before);
    }

    private static void asked(DoorVotes x, int one, int what, int answer, int... trace) {
        String call = "ask(" + one + ", " + what + ")";
        Check.due(call, x.ask(one, what), answer);
        for (int i = 0; i < trace.length; i++) {
            Check.due("trace(" + i + ") behind " + call, x.trace(i), trace[i]);
        }
        Check.due("the end of the trace of " + call, x.trace(trace.length), NONE);
    }

    private static void asksAtFirst() {
        DoorVotes x = Check.townOf(ALL);
        asked(x, 0, 0, 1, 11, 10, 21, 20);
        asked(x, 0, 1, 1, 21, 20);
        asked(x, 1, 0, -6, 12, 11, 10, 24, 21, 20);
        asked(x, 1, 1, 6, 24, 21, 20);
        asked(x, 2, 0, -995, 11, 10, 22, 21, 20);
        asked(x, 2, 1, -995, 22, 21, 20);
        asked(x, 3, 0, -100, 13, 10);
        asked(x, 3, 1, 103, 23, 20, 13, 10);
        asked(x, 4, 0, -200, 14, 13, 10);
        asked(x, 4, 1, 204, 23, 20, 14, 13, 10);
    }

    private static void asksWithTimes() {
        DoorVotes x = Check.townOf(ALL);
        Check.due("the child", x.knock(3, 1), 1);
        Check.due("the child again", x.knock(3, 1), 1);
        Check.due("the nurse", x.knock(4, 1), 1);
        Check.due("the passer", x.knock(0, 1), 1);
        Check.due("the founder", x.knock(1, 1), 1);
        asked(x, 0, 0, 2, 11, 10, 21, 20);
        asked(x, 1, 0, -7, 12, 11, 10, 24, 21, 20);
        asked(x, 3, 0, -98, 13, 10);
        asked(x, 3, 1, 101, 23, 20, 13, 10);
        asked(x, 4, 0, -198, 14, 13, 10);
        asked(x, 4, 1, 202, 23, 20, 14, 13, 10);
    }

    private static void theTraceIsKept() {
        DoorVotes x = Check.townOf(ALL);
        x.ask(3, 1);
        Check.due("ask(5, 0)", x.ask(5, 0), BAD);
        Check.due("ask(-1, 0)", x.ask(-1, 0), BAD);
        Check.due("ask(0, 2)", x.ask(0, 2), BAD);
        Check.due("ask(0, -1)", x.ask(0, -1), BAD);
        Check.due("trace(0) behind what is BAD", x.trace(0), 23);
        Check.due("trace(3)", x.trace(3), 10);
        Check.due("trace(4)", x.trace(4), NONE);
        Check.due("trace(-1)", x.trace(-1), NONE);
        Check.due("trace(16)", x.trace(16), NONE);
        Check.due("trace(MAX)", x.trace(Integer.MAX_VALUE), NONE);
        x.ask(0, 1);
        Check.due("the trace is empty ahead of an ask", x.trace(2), NONE);
        Check.due("asks are no acts", x.count(7), 0);
    }

    private static void counts() {
        DoorVotes x = Check.townOf("h5,4;d0,1;d1,2;d2,3;p0,4;k0,4;n4,4;i0,1;u1,2;");
        x.row(4, 0, 3);
        x.row(6, 1, 0);
        x.knock(0, 0);
        x.knock(1, 0);
        x.knock(0, 0);
        x.days(2);
        x.build(0, 4);
        x.gift(2, -1);
        Check.feedAll(x, "h2,");
        int[] due = {2, 5, 4, 3, 2, 3, 2, 7, 3};
        for (int what = 0; what < 9; what++) {
            Check.due("count(" + what + ")", x.count(what), due[what]);
        }
        Check.due("count(9)", x.count(9), BAD);
        Check.due("count(-1)", x.count(-1), BAD);
        Check.due("count(MIN)", x.count(Integer.MIN_VALUE), BAD);
    }

    private static void constants() {
        Check.due("NONE", DoorVotes.NONE, -1000000);
        Check.due("BAD", DoorVotes.BAD, -1000001);
        Check.due("STATE", DoorVotes.STATE, -1000002);
        Check.due("FULL", DoorVotes.FULL, -1000003);
    }
}
