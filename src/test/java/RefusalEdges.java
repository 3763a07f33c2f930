import java.util.function.Supplier;
import java.util.function.ToLongFunction;

/** What the terms say of refusals and FINDINGS: which comes first, and that nothing changes by them. */
final class RefusalEdges {
    private static final int BAD = DoorVotes.BAD, STATE = DoorVotes.STATE, FULL = DoorVotes.FULL;
    private static final int FOUND = -1000010;
    private static final int NULL = FOUND - 1, PLACE = FOUND - 2, KIND = FOUND - 3, SIZE = FOUND - 4, STORE = FOUND - 5;
    private static final int MIN = Integer.MIN_VALUE, MAX = Integer.MAX_VALUE;

    private static Supplier<DoorVotes> made;
    private static String probed;

    private RefusalEdges() {
    }

    static void run() {
        theFirstThatFits();
        stateAheadOfBad();
        theFirstInTime();
        findingsHaveNumbers();
        Check.sentence(0, "What is refused, or found, changes nothing but status().");
        ofATown();
        ofWhatIsFull();
        ofNothing();
    }

    // ---- which comes first

    private static void theFirstThatFits() {
        Check.sentence(0, "Refusals are answers, the first of these that fits");
        DoorVotes none = new DoorVotes();
        Check.due("BAD ahead of STATE, image", none.image(2), BAD);
        Check.due("BAD ahead of STATE, restore", none.restore(2), BAD);
        DoorVotes full = full();
        Check.due("BAD ahead of FULL, feed", full.feed(256), BAD);
        Check.due("FULL, feed", full.feed(255), FULL);
        Check.due("BAD ahead of FULL, days", full.days(25), BAD);
        Check.due("FULL, days", full.days(24), FULL);
        Check.due("BAD ahead of FULL, gift", full.gift(0, 2), BAD);
        Check.due("FULL, gift", full.gift(0, 1), FULL);
        Check.due("BAD ahead of FULL, build", full.build(1, 1), BAD);
        Check.due("FULL, build", full.build(0, 1), FULL);
        DoorVotes x = standing();
        Check.due("BAD ahead of STATE, knock", x.knock(3, 1), BAD);
        Check.due("STATE, knock", x.knock(1, 1), STATE);
        Check.due("BAD ahead of SIZE", x.row(0, 3, -1), BAD);
        Check.due("BAD ahead of NULL, copy", x.copy(3, 0, 8, 0, 0), BAD);
        Check.due("BAD ahead of NULL, bents", x.bents(0, 0, 3, 0, 1, 0), BAD);
        Check.due("BAD ahead of PLACE, bents", x.bents(0, 1, 0, -1, 3, 0), BAD);
        Check.due("BAD ahead of PLACE, who", x.who(0, 1, 0, -1, 0), BAD);
        Check.due("BAD ahead of KIND", x.as(3, 5), BAD);
    }

    private static void stateAheadOfBad() {
        Check.sentence(0, "but as told: BAD (a number is not as told; there is no such thing)");
        DoorVotes none = new DoorVotes();
        Check.due("days(0)", none.days(0), STATE);
        Check.due("drawn(61, 0, 2)", none.drawn(61, 0, 2), STATE);
        Check.due("no such person", none.person(0, 0), BAD);
        Check.due("no such door", none.door(0, 0), BAD);
        Check.due("no such room", none.build(0, 1), BAD);
        Check.due("no such row", none.drop(8), BAD);
        Check.due("no such image", none.restore(2), BAD);
        Check.due("no such count", none.count(9), BAD);
    }

    private static void theFirstInTime() {
        Check.sentence(0, "then FINDINGS, of several the first in time");
        DoorVotes x = standing();
        Check.due("NULL ahead of STORE and PLACE", x.copy(3, -1, 1, 9, -1), NULL);
        Check.due("NULL of b ahead of PLACE of a", x.copy(0, -1, 3, 0, 0), NULL);
        Check.due("STORE ahead of PLACE", x.copy(0, -1, 1, 9, -1), STORE);
        Check.due("STORE of none", x.copy(0, 0, 1, 0, 0), STORE);
        Check.due("NULL ahead of PLACE, set", x.set(3, -1, 0), NULL);
        Check.due("NULL ahead of PLACE, bents", x.bents(0, 1, 3, -1, 1, 0), NULL);
        Check.due("NULL ahead of PLACE, who", x.who(0, 1, 3, -1, 1), NULL);
    }

    private static void findingsHaveNumbers() {
        Check.sentence(0, "-1000010 less 1 NULL (a ROW that is missing), 2 PLACE (no such place of a ROW), "
                + "3 KIND (a PERSON that is not that), 4 SIZE (fewer than none), 5 STORE (ROWS of two LANES).");
        DoorVotes x = standing();
        long[] answers = {x.drop(3), x.set(0, 2, 0), x.as(1, 2), x.row(0, 0, -1), x.copy(0, 0, 1, 0, 1)};
        for (int k = 0; k < answers.length; k++) {
            Check.due("finding " + (k + 1), answers[k], -1000011 - k);
        }
        Check.due("the latest", x.status(), 5);
    }

    // ---- what an object is, so that a change is seen

    /** ROWS, a TOWN with ACTS, an IMAGE, a TRACE, a FAULT, bytes on the tape, and a FINDING that is the latest. */
    private static DoorVotes standing() {
        DoorVotes x = new DoorVotes();
        Check.tell(x, "x");
        Check.tell(x, "h3,2;d0,1;f0,3;p0,3;p0,3;u0,1;");
        x.row(0, 0, 2);
        x.set(0, 0, 1);
        x.row(1, 1, 1);
        x.set(1, 0, -1);
        x.knock(2, 0);
        x.knock(0, 0);
        x.days(2);
        x.image(0);
        x.gift(2, -1);
        x.build(1, 2);
        x.ask(1, 0);
        Check.feedAll(x, "h2,");
        x.copy(0, 0, 1, 0, 0);
        return x;
    }

    /** No DOOR, no byte, no DAY, no gift (to 0) and no insult (to 1) can come any more. */
    private static DoorVotes full() {
        DoorVotes x = new DoorVotes();
        Check.tell(x, "h2,0;d0,1;d0,1;d0,1;d0,1;d0,1;d0,1;p0,3;p0,3;");
        for (int k = 0; k < 9; k++) {
            x.gift(0, 1);
            x.gift(1, -1);
        }
        for (int day = 24; day < 999; day += 24) {
            x.days(24);
        }
        x.days(15);
        x.row(0, 2, 40);
        x.drop(7);
        for (int k = 0; k < 120; k++) {
            x.feed('h');
        }
        return x;
    }

    /** All that can be found out about an object; it is of no use behind that. */
    private static String probe(DoorVotes x) {
        StringBuilder all = new StringBuilder(Check.told(x));
        for (int k = 0; k < 4; k++) {
            all.append(" u").append(x.undo()).append(' ').append(x.count(4)).append(' ').append(x.count(5))
                    .append(' ').append(x.person(0, 0)).append(' ').append(x.person(0, 2)).append(' ')
                    .append(x.person(2, 2));
        }
        for (int i = 0; i < 3; i++) {
            all.append(" i").append(Check.item(x, 0, i)).append(' ').append(Check.item(x, 1, i));
        }
        for (int k = 0; k < 2; k++) {
            all.append(" r").append(x.restore(k)).append(' ').append(x.count(1)).append(' ').append(x.count(2))
                    .append(' ').append(x.count(4)).append(' ').append(x.count(5)).append(' ').append(x.count(7))
                    .append(' ').append(x.person(2, 2));
        }
        all.append(" t").append(x.town()).append(' ').append(x.count(3));
        for (int row = 0; row < 8; row++) {
            all.append(" l").append(x.set(row, 0, 70000)).append(' ').append(x.drop(row));
        }
        return all.toString();
    }

    private static void made(Supplier<DoorVotes> by) {
        made = by;
        probed = probe(made.get());
        Check.dueTrue("two made alike are alike", probed.equals(probe(made.get())));
    }

    private static void refused(String call, ToLongFunction<DoorVotes> calls, int due) {
        DoorVotes x = made.get();
        int before = x.status();
        Check.due(call, calls.applyAsLong(x), due);
        Check.due("status() behind " + call, x.status(), due < FOUND && due >= STORE ? FOUND - due : before);
        Check.dueTrue(call + " changes nothing", probe(x).equals(probed));
    }

    private static void bad(String call, ToLongFunction<DoorVotes> calls) {
        refused(call, calls, BAD);
    }

    // ---- that nothing changes

    private static void ofATown() {
        made(RefusalEdges::standing);
        rowsOfATown();
        deedsOfATown();
        questionsOfATown();
        foretoldOfATown();
    }

    private static void rowsOfATown() {
        bad("row(8, 0, 1)", x -> x.row(8, 0, 1));
        bad("row(-1, 0, 1)", x -> x.row(-1, 0, 1));
        bad("row(0, 3, 1)", x -> x.row(0, 3, 1));
        bad("row(0, -1, 1)", x -> x.row(0, -1, 1));
        bad("row(0, 0, 41)", x -> x.row(0, 0, 41));
        refused("row(0, 2, -1)", x -> x.row(0, 2, -1), SIZE);
        refused("row(5, 0, MIN)", x -> x.row(5, 0, MIN), SIZE);
        bad("set(8, 0, 1)", x -> x.set(8, 0, 1));
        refused("set(5, 0, 1)", x -> x.set(5, 0, 1), NULL);
        refused("set(0, 2, 1)", x -> x.set(0, 2, 1), PLACE);
        refused("set(0, -1, 1)", x -> x.set(0, -1, 1), PLACE);
        bad("copy(8, 0, 0, 0, 1)", x -> x.copy(8, 0, 0, 0, 1));
        bad("copy(0, 0, -1, 0, 1)", x -> x.copy(0, 0, -1, 0, 1));
        refused("copy(5, 0, 0, 0, 1)", x -> x.copy(5, 0, 0, 0, 1), NULL);
        refused("copy(0, 0, 5, 0, 1)", x -> x.copy(0, 0, 5, 0, 1), NULL);
        refused("copy(0, 0, 1, 0, 1)", x -> x.copy(0, 0, 1, 0, 1), STORE);
        refused("copy(0, 0, 0, 1, 2)", x -> x.copy(0, 0, 0, 1, 2), PLACE);
        refused("copy(0, 1, 0, 0, 2)", x -> x.copy(0, 1, 0, 0, 2), PLACE);
        refused("copy(0, 0, 0, 1, -1)", x -> x.copy(0, 0, 0, 1, -1), PLACE);
        refused("copy(0, 0, 0, 1, MAX)", x -> x.copy(0, 0, 0, 1, MAX), PLACE);
        bad("drop(8)", x -> x.drop(8));
        bad("drop(-1)", x -> x.drop(-1));
        refused("drop(5)", x -> x.drop(5), NULL);
    }

    private static void deedsOfATown() {
        bad("feed(-1)", x -> x.feed(-1));
        bad("feed(256)", x -> x.feed(256));
        bad("knock(3, 0)", x -> x.knock(3, 0));
        bad("knock(0, 2)", x -> x.knock(0, 2));
        bad("knock(0, -1)", x -> x.knock(0, -1));
        refused("knock(1, 1)", x -> x.knock(1, 1), STATE);
        bad("days(0)", x -> x.days(0));
        bad("days(25)", x -> x.days(25));
        bad("gift(3, 1)", x -> x.gift(3, 1));
        bad("gift(0, 0)", x -> x.gift(0, 0));
        bad("gift(0, -2)", x -> x.gift(0, -2));
        bad("build(1, 1)", x -> x.build(1, 1));
        bad("build(0, 3)", x -> x.build(0, 3));
        bad("build(-1, 0)", x -> x.build(-1, 0));
        bad("image(2)", x -> x.image(2));
        bad("image(-1)", x -> x.image(-1));
        bad("restore(2)", x -> x.restore(2));
        bad("restore(-1)", x -> x.restore(-1));
        refused("restore(1)", x -> x.restore(1), STATE);
    }

    private static void questionsOfATown() {
        bad("person(3, 0)", x -> x.person(3, 0));
        bad("person(0, 6)", x -> x.person(0, 6));
        bad("door(2, 0)", x -> x.door(2, 0));
        bad("door(0, 3)", x -> x.door(0, 3));
        bad("at(3, 0, 0)", x -> x.at(3, 0, 0));
        bad("at(0, 2, 0)", x -> x.at(0, 2, 0));
        bad("at(0, 0, 7)", x -> x.at(0, 0, 7));
        bad("favour(0, 0)", x -> x.favour(0, 0));
        bad("favour(0, 3)", x -> x.favour(0, 3));
        bad("favour(3, 0)", x -> x.favour(3, 0));
        bad("kind(3)", x -> x.kind(3));
        bad("as(3, 0)", x -> x.as(3, 0));
        bad("as(0, 6)", x -> x.as(0, 6));
        refused("as(1, 2)", x -> x.as(1, 2), KIND);
        refused("as(0, 4)", x -> x.as(0, 4), KIND);
        bad("ask(3, 0)", x -> x.ask(3, 0));
        bad("ask(0, 2)", x -> x.ask(0, 2));
        refused("trace(4)", x -> x.trace(4), DoorVotes.NONE);
        bad("count(9)", x -> x.count(9));
    }

    private static void foretoldOfATown() {
        bad("way(3, 0, 0)", x -> x.way(3, 0, 0));
        bad("way(0, 3, 0)", x -> x.way(0, 3, 0));
        bad("way(0, 0, 2)", x -> x.way(0, 0, 2));
        bad("reach(3)", x -> x.reach(3));
        bad("gifts(3, 0, 0)", x -> x.gifts(3, 0, 0));
        bad("gifts(0, 2, 0)", x -> x.gifts(0, 2, 0));
        bad("gifts(0, 0, 2)", x -> x.gifts(0, 0, 2));
        bad("parade(3, 0, 0)", x -> x.parade(3, 0, 0));
        bad("parade(0, 2, 0)", x -> x.parade(0, 2, 0));
        bad("parade(0, 0, 2)", x -> x.parade(0, 0, 2));
        bad("newDoor(3, 0, 0)", x -> x.newDoor(3, 0, 0));
        bad("newDoor(0, 3, 0)", x -> x.newDoor(0, 3, 0));
        bad("newDoor(0, 0, 2)", x -> x.newDoor(0, 0, 2));
        bad("bents(3, 0, 0, 0, 1, 0)", x -> x.bents(3, 0, 0, 0, 1, 0));
        bad("bents(0, 1, 0, 0, 3, 0)", x -> x.bents(0, 1, 0, 0, 3, 0));
        bad("bents(0, 1, 0, 0, 1, 2)", x -> x.bents(0, 1, 0, 0, 1, 2));
        refused("bents(0, 1, 5, 0, 1, 0)", x -> x.bents(0, 1, 5, 0, 1, 0), NULL);
        refused("bents(0, 1, 0, 1, 2, 0)", x -> x.bents(0, 1, 0, 1, 2, 0), PLACE);
        bad("who(3, 0, 0, 0, 1)", x -> x.who(3, 0, 0, 0, 1));
        bad("who(0, 1, 0, 0, 3)", x -> x.who(0, 1, 0, 0, 3));
        refused("who(0, 1, 5, 0, 1)", x -> x.who(0, 1, 5, 0, 1), NULL);
        refused("who(0, 1, 0, 1, 2)", x -> x.who(0, 1, 0, 1, 2), PLACE);
        bad("awake(3, 0, 5, 0)", x -> x.awake(3, 0, 5, 0));
        bad("awake(0, 2, 5, 0)", x -> x.awake(0, 2, 5, 0));
        bad("awake(0, 0, 11, 0)", x -> x.awake(0, 0, 11, 0));
        bad("awake(0, 0, 5, 2)", x -> x.awake(0, 0, 5, 2));
        bad("drawn(61, 1, 0)", x -> x.drawn(61, 1, 0));
        bad("drawn(1, 0, 0)", x -> x.drawn(1, 0, 0));
        bad("drawn(1, 1, 2)", x -> x.drawn(1, 1, 2));
    }

    private static void ofWhatIsFull() {
        made(RefusalEdges::full);
        refused("feed('h')", x -> x.feed('h'), FULL);
        refused("days(1)", x -> x.days(1), FULL);
        refused("days(24)", x -> x.days(24), FULL);
        refused("gift(0, 1)", x -> x.gift(0, 1), FULL);
        refused("gift(1, -1)", x -> x.gift(1, -1), FULL);
        refused("build(0, 1)", x -> x.build(0, 1), FULL);
        bad("build(0, 0)", x -> x.build(0, 0));
    }

    private static void ofNothing() {
        made(DoorVotes::new);
        refused("undo()", x -> x.undo(), STATE);
        refused("days(1)", x -> x.days(1), STATE);
        refused("locked()", x -> x.locked(), STATE);
        refused("drawn(1, 1, 0)", x -> x.drawn(1, 1, 0), STATE);
        refused("image(0)", x -> x.image(0), STATE);
        refused("restore(0)", x -> x.restore(0), STATE);
        refused("row(0, 0, -1)", x -> x.row(0, 0, -1), SIZE);
        refused("drop(0)", x -> x.drop(0), NULL);
        bad("knock(0, 0)", x -> x.knock(0, 0));
        bad("gift(0, 1)", x -> x.gift(0, 1));
        bad("build(0, 1)", x -> x.build(0, 1));
        bad("reach(0)", x -> x.reach(0));
        bad("bents(0, 1, 0, 0, 1, 0)", x -> x.bents(0, 1, 0, 0, 1, 0));
        bad("ask(0, 0)", x -> x.ask(0, 0));
    }
}
