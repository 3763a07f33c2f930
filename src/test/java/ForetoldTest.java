/** Promises 18 to 29: what is foretold, and IMAGES. */
public final class ForetoldTest {
    private static final int NONE = DoorVotes.NONE, BAD = DoorVotes.BAD, STATE = DoorVotes.STATE;
    private static final int NULL = -1000011, PLACE = -1000012;
    /** All have gone through DOOR 0 once but the last; all are for all. */
    private static final String FRIENDS = "h2,0;d0,1;p0,4;p0,4;p0,4;p0,4;";
    private static final String RING = "h6,0;d0,1;d1,2;d0,2;d2,3;d1,3;p0,3;p0,0;";

    private ForetoldTest() {
    }

    public static void main(String[] args) {
        waysAreFound();
        waysByDoorsThatAreShut();
        whoIsLockedIn();
        fewestGifts();
        mostGifts();
        oneGiftTooMany();
        giftsToNurses();
        parades();
        paradesThatSlam();
        paradesOf99();
        newDoors();
        bentsThatFit();
        kindsThatFit();
        seenIsRefused();
        likelihoods();
        draws();
        drawsWithDays();
        imagesAreKept();
        foretoldIsRefused();
        Check.end();
    }

    private static void insult(DoorVotes x, int person, int many) {
        for (int k = 0; k < many; k++) {
            x.gift(person, -1);
        }
    }

    private static void waysAreFound() {
        DoorVotes x = Check.townOf(RING);
        int[] far = {0, 1, 1, 2, NONE, NONE};
        int[] first = {NONE, 0, 2, 0, NONE, NONE};
        for (int room = 0; room < 6; room++) {
            Check.due("way(0, " + room + ", 0)", x.way(0, room, 0), far[room]);
            Check.due("way(0, " + room + ", 1)", x.way(0, room, 1), first[room]);
        }
        Check.due("reach(0)", x.reach(0), 0b1111);
        DoorVotes chain = Check.townOf("h6,0;d5,4;d4,3;d3,2;d2,1;d1,0;p0,3;");
        Check.due("five doors", chain.way(0, 5, 0), 5);
        Check.due("the first of five", chain.way(0, 5, 1), 4);
        Check.due("all rooms", chain.reach(0), 63);
        DoorVotes twins = Check.townOf("h3,0;d1,0;d0,1;d1,2;p1,3;");
        Check.due("of two doors the least", twins.way(0, 0, 1), 0);
    }

    private static void waysByDoorsThatAreShut() {
        DoorVotes x = Check.townOf(RING);
        Check.due("way to 1 by door 0", x.way(0, 1, 1), 0);
        Check.due("who is against all goes", x.knock(1, 0), 1);
        Check.due("way round to 1", x.way(0, 1, 0), 2);
        Check.due("its first door", x.way(0, 1, 1), 2);
        Check.due("way to 3", x.way(0, 3, 1), 2);
        Check.due("its own doors are open", x.way(1, 0, 0), 1);
        Check.due("its own door", x.way(1, 0, 1), 0);
    }

    private static void whoIsLockedIn() {
        DoorVotes x = Check.townOf("h2,0;d0,1;p0,0;p0,3;k1,3;");
        Check.due("nobody", x.locked(), 0);
        x.knock(0, 0);
        Check.due("two", x.locked(), 0b110);
        Check.due("reach(1)", x.reach(1), 1);
        Check.due("reach(2)", x.reach(2), 2);
        Check.due("reach(0)", x.reach(0), 3);
        x.build(0, 1);
        Check.due("a new door frees both", x.locked(), 0);
        DoorVotes y = Check.townOf("h3,0;d0,1;p2,3;");
        Check.due("a room without a door", y.locked(), 1);
        Check.due("its own room alone", y.reach(0), 4);
    }

    private static void gifts(DoorVotes x, int person, int many, int who) {
        Check.due("gifts(" + person + ", 0, 0)", x.gifts(person, 0, 0), many);
        Check.due("gifts(" + person + ", 0, 1)", x.gifts(person, 0, 1), who);
    }

    private static DoorVotes friends() {
        DoorVotes x = Check.townOf(FRIENDS);
        for (int p = 0; p < 3; p++) {
            Check.due("a friend goes", x.knock(p, 0), 1);
        }
        return x;
    }

    private static void fewestGifts() {
        DoorVotes x = friends();
        gifts(x, 3, 0, 0);
        x.knock(0, 0);
        insult(x, 0, 2);
        insult(x, 1, 2);
        insult(x, 2, 1);
        gifts(x, 3, 2, 1);
        DoorVotes y = friends();
        insult(y, 0, 1);
        insult(y, 1, 1);
        insult(y, 2, 1);
        gifts(y, 3, 1, 1);
        insult(y, 2, 1);
        gifts(y, 3, 2, 3);
        insult(y, 0, 2);
        gifts(y, 3, 3, 6);
        int acts = y.count(7);
        Check.due("gifts are foretold", y.person(2, 2), -2);
        Check.due("no act", y.count(7), acts);
    }

    private static void mostGifts() {
        DoorVotes x = Check.townOf("h2,0;d0,1;p0,2;p0,3;u0,1;");
        x.knock(0, 0);
        insult(x, 0, 9);
        gifts(x, 1, 20, 1);
        DoorVotes y = Check.townOf("h2,0;d0,1;p0,1;p0,3;u0,1;");
        y.knock(0, 0);
        insult(y, 0, 9);
        gifts(y, 1, NONE, NONE);
        DoorVotes z = Check.townOf("h2,0;d0,1;p0,2;p0,2;p0,2;p0,2;p0,3;u0,4;u1,4;u2,4;u3,4;");
        for (int p = 0; p < 4; p++) {
            z.gift(p, 1);
            z.gift(p, 1);
        }
        z.image(0);
        for (int p = 0; p < 3; p++) {
            Check.due("a voter goes", z.knock(p, 0), 1);
        }
        for (int p = 0; p < 3; p++) {
            insult(z, p, 11);
        }
        gifts(z, 4, 40, 3);
        z.restore(0);
        for (int p = 0; p < 4; p++) {
            Check.due("a voter goes", z.knock(p, 0), 1);
        }
        for (int p = 0; p < 4; p++) {
            insult(z, p, 11);
        }
        gifts(z, 4, NONE, NONE);
    }

    /** Two of whom each wants 20 for a vote, one who wants 2, and one who wants too many: 41 would be needed. */
    private static void oneGiftTooMany() {
        DoorVotes x = Check.townOf("h2,0;d0,1;p0,2;p0,2;p0,2;p0,0;p0,3;u0,4;u1,4;u3,4;");
        int[] kind = {2, 2, 2, 4};
        int[] unkind = {11, 11, 2, 13};
        for (int p = 0; p < 4; p++) {
            for (int k = 0; k < kind[p]; k++) {
                x.gift(p, 1);
            }
        }
        for (int p = 0; p < 4; p++) {
            Check.due("a voter goes", x.knock(p, 0), 1);
        }
        for (int p = 0; p < 4; p++) {
            insult(x, p, unkind[p]);
        }
        Check.due("against", x.at(4, 0, 6), 4);
        gifts(x, 4, NONE, NONE);
        x.gift(2, 1);
        gifts(x, 4, 40, 0b0011);
    }

    private static void giftsToNurses() {
        DoorVotes x = Check.townOf("h2,0;d0,1;n0,0;p0,3;u0,1;");
        x.knock(0, 0);
        Check.due("a nurse is against nobody", x.at(1, 0, 6), 0);
        gifts(x, 1, 13, 1);
        gifts(x, 0, 0, 0);
        insult(x, 0, 7);
        gifts(x, 1, 20, 1);
        insult(x, 0, 1);
        gifts(x, 1, NONE, NONE);
    }

    private static void parade(DoorVotes x, int person, int many, int who) {
        Check.due("parade(" + person + ", 0, 0)", x.parade(person, 0, 0), many);
        Check.due("parade(" + person + ", 0, 1)", x.parade(person, 0, 1), who);
    }

    private static void parades() {
        DoorVotes x = Check.townOf("h3,0;d0,1;p2,4;p2,4;k0,2;p0,3;p2,4;");
        parade(x, 3, 0, 0);
        x.knock(2, 0);
        parade(x, 3, 2, 0b00011);
        parade(x, 2, 0, 0);
        parade(x, 0, 2, 0b10010);
        Check.due("parades are foretold", x.count(5), 1);
        DoorVotes y = Check.townOf("h2,0;d0,1;p0,4;k0,2;n0,4;p0,3;");
        y.knock(1, 0);
        parade(y, 3, 1, 0b100);
        DoorVotes z = Check.townOf("h2,0;d0,1;p0,2;p0,3;");
        z.knock(0, 0);
        parade(z, 1, NONE, NONE);
        DoorVotes faded = Check.townOf("h2,1;d0,1;p0,4;k0,2;p0,3;i0,1;");
        Check.due("the passer", faded.knock(0, 0), 1);
        Check.due("the child, its kin", faded.knock(1, 0), 1);
        faded.days(2);
        Check.due("for, faded", faded.at(2, 0, 5), 0);
        parade(faded, 2, 1, 0b001);
    }

    private static void paradesThatSlam() {
        DoorVotes x = Check.townOf("h2,0;d0,1;s0,0;p0,3;");
        x.knock(0, 0);
        parade(x, 1, NONE, NONE);
        x.knock(0, 0);
        parade(x, 1, 1, 1);
        x.knock(0, 0);
        parade(x, 1, 0, 0);
        DoorVotes y = Check.townOf("h2,0;d0,1;s0,4;k0,2;p0,3;i0,1;");
        for (int k = 0; k < 2; k++) {
            y.knock(0, 0);
        }
        y.knock(1, 0);
        parade(y, 2, 0, 0);
    }

    private static void paradesOf99() {
        DoorVotes x = Check.townOf("h2,0;d0,1;p0,4;p0,4;p0,3;");
        for (int k = 0; k < 99; k++) {
            x.knock(0, 0);
            x.knock(1, 0);
        }
        insult(x, 1, 2);
        Check.due("for", x.at(2, 0, 5), 99);
        Check.due("against", x.at(2, 0, 6), 99);
        parade(x, 2, NONE, NONE);
        x.knock(0, 0);
        parade(x, 2, NONE, NONE);
    }

    private static void newDoor(DoorVotes x, int person, int room, int pair, int many) {
        Check.due("newDoor(" + person + ", " + room + ", 0)", x.newDoor(person, room, 0), pair);
        Check.due("newDoor(" + person + ", " + room + ", 1)", x.newDoor(person, room, 1), many);
    }

    private static void newDoors() {
        DoorVotes x = Check.townOf(RING);
        newDoor(x, 0, 0, 1, 0);
        newDoor(x, 0, 1, 1, 1);
        newDoor(x, 0, 3, 3, 1);
        newDoor(x, 0, 5, 5, 1);
        x.knock(0, 2);
        newDoor(x, 0, 0, 1, 1);
        newDoor(x, 0, 4, 24, 1);
        x.knock(0, 3);
        newDoor(x, 0, 0, 3, 1);
        newDoor(x, 0, 2, 1, 1);
        Check.due("a new door is foretold", x.count(2), 5);
        DoorVotes two = Check.townOf("h2,0;d0,1;p0,0;p0,3;");
        two.knock(0, 0);
        newDoor(two, 1, 1, 1, 1);
        // A new door is only thought of: that there are six already is no matter.
        DoorVotes six = Check.townOf("h4,0;d0,1;d0,1;d0,1;d0,1;d0,1;d0,1;p1,3;");
        newDoor(six, 0, 3, 13, 1);
    }

    private static void fits(DoorVotes x, int n, int many, int least) {
        Check.due("bents, how many", x.bents(0, 1, 0, 0, n, 0), many);
        Check.due("bents, the least", x.bents(0, 1, 0, 0, n, 1), least);
    }

    private static void seen(DoorVotes x, int a, int b) {
        x.set(0, 0, a);
        x.set(0, 1, b);
    }

    private static void bentsThatFit() {
        DoorVotes x = Check.townOf("h2,0;d0,1;d0,1;p0,5;p0,3;");
        x.row(0, 0, 3);
        x.knock(0, 0);
        seen(x, 1, 1);
        fits(x, 1, 3, 4);
        fits(x, 2, 3, 4);
        seen(x, 0, 1);
        fits(x, 2, 4, 0);
        seen(x, 1, 0);
        fits(x, 2, 0, NONE);
        seen(x, -1, 0);
        fits(x, 2, 0, NONE);
        fits(x, 1, 7, 0);
        seen(x, -1, 1);
        fits(x, 2, 7, 0);
        seen(x, 1, 2);
        fits(x, 2, 0, NONE);
        x.gift(0, 1);
        fits(x, 1, 4, 3);
        Check.due("from 2 on, an item 0", x.bents(0, 1, 0, 2, 1, 0), 3);
        Check.due("the bent is as it was", x.person(0, 1), 5);
        Check.due("status()", x.status(), 0);
    }

    private static void kindsThatFit() {
        DoorVotes x = Check.townOf("h2,0;d0,1;p0,5;p0,3;p0,4;");
        x.row(0, 2, 2);
        for (int k = 0; k < 3; k++) {
            x.knock(0, 0);
        }
        insult(x, 0, 3);
        x.set(0, 0, 1);
        Check.due("only a slammer", x.who(0, 1, 0, 0, 1), 1 << 3);
        Check.due("all others", x.who(0, 1, 0, 1, 1), 0b110110);
        for (int k = 0; k < 3; k++) {
            x.undo();
        }
        x.knock(2, 0);
        x.knock(2, 0);
        insult(x, 0, 3);
        Check.due("for 2, against by kind", x.who(0, 1, 0, 0, 1), 0b111000);
        Check.due("the rest", x.who(0, 1, 0, 1, 1), 0b000110);
        x.set(0, 0, -1);
        Check.due("not known", x.who(0, 1, 0, 0, 1), 62);
        x.set(0, 0, 2);
        Check.due("no such", x.who(0, 1, 0, 0, 1), 0);
        Check.due("the kind is as it was", x.kind(0), 1);
        DoorVotes y = Check.townOf("h2,0;d0,1;d0,1;p0,5;p0,3;");
        y.row(0, 0, 2);
        y.set(0, 0, 0);
        y.set(0, 1, 1);
        insult(y, 0, 3);
        Check.due("a founder's 9 at door 0 alone", y.who(0, 1, 0, 0, 2), 1 << 2);
    }

    private static void seenIsRefused() {
        DoorVotes x = Check.townOf("h2,0;d0,1;d0,1;p0,5;p0,3;");
        x.row(0, 0, 3);
        String before = Check.told(x);
        int[][] bad = {{0, 0, 0, 0, 1}, {-1, 0, 0, 0, 1}, {2, 0, 0, 0, 1}, {0, 2, 0, 0, 1}, {0, -1, 0, 0, 1},
            {0, 1, 8, 0, 1}, {0, 1, -1, 0, 1}, {0, 1, 0, 0, 0}, {0, 1, 0, 0, 3}, {0, 1, 0, 0, 7}, {0, 1, 1, 0, 0},
            {0, 1, 0, -1, -1}, {0, 1, 0, 0, Integer.MAX_VALUE}};
        for (int[] b : bad) {
            Check.due("bents", x.bents(b[0], b[1], b[2], b[3], b[4], 0), BAD);
            Check.due("who", x.who(b[0], b[1], b[2], b[3], b[4]), BAD);
        }
        Check.due("bents of what 2", x.bents(0, 1, 0, 0, 1, 2), BAD);
        Check.due("bents of what -1", x.bents(0, 1, 1, 0, 1, -1), BAD);
        Check.due("status() behind BAD", x.status(), 0);
        Check.due("bents without a row", x.bents(0, 1, 1, 9, 1, 0), NULL);
        Check.due("status() behind NULL", x.status(), 1);
        Check.due("who without a row", x.who(0, 1, 7, 0, 1), NULL);
        int[][] places = {{-1, 1}, {3, 1}, {2, 2}, {Integer.MAX_VALUE, 2}, {Integer.MIN_VALUE, 1}};
        for (int[] p : places) {
            Check.due("bents from " + p[0], x.bents(0, 1, 0, p[0], p[1], 1), PLACE);
            Check.due("who from " + p[0], x.who(0, 1, 0, p[0], p[1]), PLACE);
        }
        Check.due("status() behind PLACE", x.status(), 2);
        Check.due("the last two items", x.who(0, 1, 0, 1, 2), 0);
        Check.due("status() then", x.status(), 0);
        Check.unchanged("what is refused", x, before);
    }

    private static void likely(DoorVotes x, int person, int p, long above, long below) {
        Check.due("awake(" + person + ", 0, " + p + ", 0)", x.awake(person, 0, p, 0), above);
        Check.due("awake(" + person + ", 0, " + p + ", 1)", x.awake(person, 0, p, 1), below);
    }

    private static void likelihoods() {
        DoorVotes x = Check.townOf("h2,0;d0,1;p0,4;p0,4;p0,3;");
        likely(x, 2, 4, 1, 1);
        x.knock(0, 0);
        x.knock(1, 0);
        insult(x, 1, 2);
        likely(x, 2, 0, 1, 1);
        likely(x, 2, 2, 4, 5);
        likely(x, 2, 3, 7, 10);
        likely(x, 2, 5, 1, 2);
        likely(x, 2, 9, 1, 10);
        likely(x, 2, 10, 0, 1);
        likely(x, 0, 3, 7, 10);
        likely(x, 1, 3, 1, 1);
        DoorVotes alone = Check.townOf("h2,0;d0,1;p0,4;");
        likely(alone, 0, 5, 1, 1);
        DoorVotes six = Check.townOf("h2,0;d0,1;f0,3;p0,3;p0,3;p0,3;p0,3;p0,3;");
        likely(six, 5, 3, 7, 10);
        likely(six, 0, 3, 1, 1);
        DoorVotes kids = Check.townOf("h2,0;d0,1;k0,3;k0,3;k0,3;k0,3;k0,3;p0,3;i0,1;i1,2;i2,3;i3,4;");
        for (int p = 0; p < 5; p++) {
            kids.knock(p, 0);
        }
        // Each of five children has a weight and no vote: only if all of them sleep it opens.
        likely(kids, 5, 1, 59049, 100000);
        likely(kids, 5, 8, 1, 3125);
    }

    private static void drawn(DoorVotes x, int n, int seed, int let, int rooms) {
        Check.due("drawn(" + n + ", " + seed + ", 0)", x.drawn(n, seed, 0), let);
        Check.due("drawn(" + n + ", " + seed + ", 1)", x.drawn(n, seed, 1), rooms);
    }

    private static void draws() {
        DoorVotes x = Check.townOf("h3,0;d0,1;d1,2;p0,4;p1,4;p2,4;");
        String before = Check.told(x);
        int[] rooms = {3, 4, 3, 2, 1, 0, 1, 2, 1};
        for (int n = 0; n < rooms.length; n++) {
            drawn(x, n, 1, n, rooms[n]);
        }
        Check.unchanged("drawn", x, before);
        DoorVotes y = Check.townOf("h4,0;d0,1;d2,3;p0,4;p0,4;p0,4;");
        drawn(y, 1, 1, 0, 0);
        drawn(y, 3, 1, 0, 0);
        drawn(y, 4, 1, 1, 1);
    }

    /** Seed 3 gives 50421, 847425747, 572982925, 807347327, 1284843143, 1410633816, 303082632, .. */
    private static void drawsWithDays() {
        DoorVotes x = Check.townOf("h2,1;d0,1;p0,2;p0,2;");
        x.knock(0, 0);
        // 50421 .. 1284843143 are odd, and no day: 1 knocks, and 0 is against it.
        drawn(x, 5, 3, 0, 1);
        // With 1410633816 comes 0, which nobody is against, and a day; with 303082632 it comes again, and a day.
        drawn(x, 6, 3, 1, 0);
        drawn(x, 7, 3, 2, 1);
        // Seed 4 gives 67228 and 1129900996 (1 knocks, a day is over), 48149351 (2 knocks), 1792290985 (1 knocks):
        // on day 2 the vote of 0 has faded, and behind it there is that of 2.
        DoorVotes y = Check.townOf("h2,1;d0,1;p0,2;p0,2;p0,2;");
        y.knock(0, 0);
        drawn(y, 2, 4, 0, 1);
        drawn(y, 3, 4, 1, 2);
        drawn(y, 4, 4, 1, 2);
        Check.due("the day is as it was", y.count(4), 0);
    }

    private static void imagesAreKept() {
        DoorVotes x = new DoorVotes();
        Check.due("image(0) without a town", x.image(0), STATE);
        Check.due("image(-1) without a town", x.image(-1), BAD);
        Check.due("restore(1) without an image", x.restore(1), STATE);
        Check.due("restore(2)", x.restore(2), BAD);
        Check.due("restore(-1)", x.restore(-1), BAD);
        Check.tell(x, "h3,1;d0,1;d1,2;p0,4;k0,5;i0,1;");
        x.knock(0, 0);
        x.gift(1, -1);
        x.days(2);
        x.build(0, 2);
        String kept = state(x);
        Check.due("image(0)", x.image(0), 1);
        Check.due("image(2)", x.image(2), BAD);
        Check.due("acts stay behind an image", x.count(7), 5);
        Check.due("restore(1)", x.restore(1), STATE);
        x.knock(0, 1);
        x.knock(1, 2);
        x.days(1);
        Check.due("image(1)", x.image(1), 1);
        String later = state(x);
        Check.due("restore(0)", x.restore(0), 1);
        Check.dueTrue("as image 0 kept it", state(x).equals(kept));
        Check.due("no act can be undone", x.count(7), 0);
        Check.due("undo()", x.undo(), STATE);
        x.gift(1, 1);
        Check.tell(x, "h2,0;d0,1;s0,0;");
        Check.due("restore(1) behind another town", x.restore(1), 1);
        Check.dueTrue("as image 1 kept it", state(x).equals(later));
        Check.due("restore(0) again", x.restore(0), 1);
        Check.dueTrue("an image is not used up", state(x).equals(kept));
        Check.due("rooms", x.count(1), 3);
        Check.due("ties", x.count(6), 1);
    }

    /** What an IMAGE keeps of a small TOWN. */
    private static String state(DoorVotes x) {
        StringBuilder all = new StringBuilder();
        for (int what = 1; what < 7; what++) {
            all.append(x.count(what)).append(' ');
        }
        for (int p = 0; p < x.count(3); p++) {
            for (int what = 0; what < 6; what++) {
                all.append(x.person(p, what)).append(' ');
            }
            for (int d = 0; d < x.count(2); d++) {
                all.append(x.at(p, d, 0)).append(' ').append(x.at(p, d, 1)).append(' ').append(x.at(p, d, 2)).append(' ');
            }
        }
        return all.toString();
    }

    private static void foretoldIsRefused() {
        DoorVotes x = Check.townOf("h2,0;d0,1;p0,5;p0,3;");
        String before = Check.told(x);
        int[][] bad = {{-1, 0, 0}, {2, 0, 0}, {0, -1, 0}, {0, 2, 0}, {0, 0, -1}, {0, 0, 2}};
        for (int[] b : bad) {
            Check.due("way", x.way(b[0], b[1], b[2]), BAD);
            Check.due("newDoor", x.newDoor(b[0], b[1], b[2]), BAD);
            Check.due("gifts", x.gifts(b[0], b[1], b[2]), BAD);
            Check.due("parade", x.parade(b[0], b[1], b[2]), BAD);
            Check.due("awake", x.awake(b[0], b[1], 5, b[2]), BAD);
        }
        Check.due("gifts of door 1", x.gifts(0, 1, 0), BAD);
        Check.due("parade of door 1", x.parade(0, 1, 0), BAD);
        Check.due("awake of door 1", x.awake(0, 1, 5, 0), BAD);
        Check.due("awake by -1", x.awake(0, 0, -1, 0), BAD);
        Check.due("awake by 11", x.awake(0, 0, 11, 0), BAD);
        Check.due("reach(-1)", x.reach(-1), BAD);
        Check.due("reach(2)", x.reach(2), BAD);
        Check.due("drawn(-1, 1, 0)", x.drawn(-1, 1, 0), BAD);
        Check.due("drawn(61, 1, 0)", x.drawn(61, 1, 0), BAD);
        Check.due("drawn(1, 0, 0)", x.drawn(1, 0, 0), BAD);
        Check.due("drawn(1, 1000000, 0)", x.drawn(1, 1000000, 0), BAD);
        Check.due("drawn(1, 1, 2)", x.drawn(1, 1, 2), BAD);
        Check.due("drawn(1, 1, -1)", x.drawn(1, 1, -1), BAD);
        Check.dueTrue("drawn(60, 999999, 1)", x.drawn(60, 999999, 1) >= 0);
        Check.unchanged("what is foretold, or BAD", x, before);
        DoorVotes none = new DoorVotes();
        Check.due("drawn(61, 0, 9) without a town", none.drawn(61, 0, 9), STATE);
        Check.due("locked() without a town", none.locked(), STATE);
    }
}
