/** Promises 9 to 17: ACTS, and what is asked of PEOPLE and DOORS. */
public final class DoneTest {
    private static final int NONE = DoorVotes.NONE, BAD = DoorVotes.BAD, STATE = DoorVotes.STATE, FULL = DoorVotes.FULL;
    /** 0 a passer, 1 a child (its kin), 2 a nurse (its foe), 3 a slammer. */
    private static final String FOUR = "h3,2;d0,1;d1,2;p0,4;k1,2;n2,1;s0,3;i0,1;u0,2;";

    private DoneTest() {
    }

    public static void main(String[] args) {
        knocksAreLetOrNot();
        knocksAreRefused();
        actsAreUndone();
        undoOfEachAct();
        oldActsAreForgotten();
        daysPass();
        giftsAndInsults();
        doorsAreBuilt();
        votesFade();
        weightsByKind();
        timesStayAt99();
        votesAtADoor();
        favours();
        whatIsAskedIsRefused();
        Check.end();
    }

    private static void knocksAreLetOrNot() {
        DoorVotes x = Check.townOf(FOUR);
        Check.due("nobody has a weight there", x.knock(0, 0), 1);
        Check.due("its room", x.person(0, 0), 1);
        Check.due("times", x.at(0, 0, 0), 1);
        Check.due("last", x.at(0, 0, 1), 0);
        Check.due("one is for it", x.knock(3, 0), 1);
        Check.due("the other way round", x.knock(1, 0), 1);
        Check.due("room of the child", x.person(1, 0), 0);
        x.days(1);
        Check.due("a door that is new to all", x.knock(2, 1), 1);
        Check.due("last is the day", x.at(2, 1, 1), 1);
        Check.due("two are against it", x.knock(2, 0), 0);
        Check.due("room of the nurse", x.person(2, 0), 1);
        Check.due("times of the nurse there", x.at(2, 0, 0), 0);
        Check.due("people who went through", x.door(0, 2), 0b1011);
        Check.due("people who went through the other", x.door(1, 2), 0b0100);
        Check.due("all times of the nurse", x.person(2, 3), 1);
        Check.due("all times", x.count(5), 4);
        Check.due("acts, the one not let, too", x.count(7), 6);
    }

    private static void knocksAreRefused() {
        DoorVotes x = Check.townOf(FOUR);
        String before = Check.told(x);
        Check.due("knock(-1, 0)", x.knock(-1, 0), BAD);
        Check.due("knock(4, 0)", x.knock(4, 0), BAD);
        Check.due("knock(0, -1)", x.knock(0, -1), BAD);
        Check.due("knock(0, 2)", x.knock(0, 2), BAD);
        Check.due("knock(0, 1)", x.knock(0, 1), STATE);
        Check.due("knock(2, 0)", x.knock(2, 0), STATE);
        Check.unchanged("what knock refuses", x, before);
    }

    private static void actsAreUndone() {
        DoorVotes x = Check.townOf(FOUR);
        String[] before = new String[8];
        before[0] = acts(x);
        x.knock(0, 0);
        before[1] = acts(x);
        x.knock(3, 0);
        before[2] = acts(x);
        x.days(1);
        before[3] = acts(x);
        x.knock(2, 1);
        before[4] = acts(x);
        x.gift(2, -1);
        before[5] = acts(x);
        Check.due("a new door", x.build(2, 0), 2);
        before[6] = acts(x);
        Check.due("a knock at it", x.knock(3, 1), 0);
        for (int k = 6; k >= 0; k--) {
            Check.due("undo()", x.undo(), k);
            Check.dueTrue("as it was ahead of act " + k, acts(x).equals(before[k]));
        }
        Check.due("undo() of none", x.undo(), STATE);
    }

    /** Less than Check.told, so that 512 calls are enough. */
    private static String acts(DoorVotes x) {
        StringBuilder all = new StringBuilder();
        for (int p = 0; p < 4; p++) {
            all.append(x.person(p, 0)).append(' ').append(x.person(p, 2)).append(' ').append(x.person(p, 3)).append(' ');
            all.append(x.at(p, 0, 1)).append(' ').append(x.at(p, 1, 1)).append(' ');
        }
        return all.append(x.count(2)).append(' ').append(x.count(4)).append(' ').append(x.count(7)).toString();
    }

    private static void undoOfEachAct() {
        DoorVotes x = Check.townOf(FOUR);
        x.gift(0, 1);
        x.gift(0, -1);
        x.undo();
        Check.due("an insult is undone", x.person(0, 2), 1);
        x.undo();
        Check.due("a gift is undone", x.person(0, 2), 0);
        x.build(0, 2);
        x.knock(0, 2);
        x.undo();
        x.undo();
        Check.due("a door is gone", x.at(0, 2, 0), BAD);
        x.build(2, 1);
        Check.due("another one is there", x.door(2, 0), 2);
        Check.due("nobody went through it", x.door(2, 2), 0);
        Check.due("never", x.at(0, 2, 1), NONE);
        x.days(3);
        Check.due("undo() of one day of three", x.undo(), 3);
        Check.due("the day", x.count(4), 2);
        x.knock(0, 0);
        x.days(1);
        x.knock(0, 0);
        x.undo();
        Check.due("last is as it was", x.at(0, 0, 1), 2);
        Check.due("times are as they were", x.at(0, 0, 0), 1);
        Check.due("the room is as it was", x.person(0, 0), 1);
    }

    private static void oldActsAreForgotten() {
        DoorVotes x = Check.townOf(FOUR);
        x.gift(0, 1);
        x.days(24);
        Check.due("acts", x.count(7), 24);
        x.gift(1, 1);
        Check.due("acts then", x.count(7), 24);
        for (int k = 23; k >= 0; k--) {
            Check.due("undo()", x.undo(), k);
        }
        Check.due("undo() of none", x.undo(), STATE);
        Check.due("the oldest day stays", x.count(4), 1);
        Check.due("the gift of before stays", x.person(0, 2), 1);
        Check.due("the gift behind it is undone", x.person(1, 2), 0);
    }

    private static void daysPass() {
        DoorVotes x = new DoorVotes();
        Check.due("days(1) without a town", x.days(1), STATE);
        Check.due("days(0) without a town", x.days(0), STATE);
        Check.tell(x, FOUR);
        Check.due("days(0)", x.days(0), BAD);
        Check.due("days(25)", x.days(25), BAD);
        Check.due("days(-1)", x.days(-1), BAD);
        Check.due("days(MAX)", x.days(Integer.MAX_VALUE), BAD);
        Check.due("count(7)", x.count(7), 0);
        for (int k = 1; k <= 41; k++) {
            Check.due("days(24)", x.days(24), 24 * k);
        }
        Check.due("days(16) of 984", x.days(16), FULL);
        Check.due("days(25) of 984", x.days(25), BAD);
        Check.due("days(15) of 984", x.days(15), 999);
        Check.due("days(1) of 999", x.days(1), FULL);
        Check.due("the day", x.count(4), 999);
        Check.due("undo()", x.undo(), 23);
        Check.due("days(1) of 998", x.days(1), 999);
    }

    private static void giftsAndInsults() {
        DoorVotes x = Check.townOf(FOUR);
        String before = Check.told(x);
        int[] no = {0, 2, -2, Integer.MAX_VALUE, Integer.MIN_VALUE};
        for (int by : no) {
            Check.due("gift(0, " + by + ")", x.gift(0, by), BAD);
        }
        Check.due("gift(4, 1)", x.gift(4, 1), BAD);
        Check.due("gift(-1, 1)", x.gift(-1, 1), BAD);
        Check.unchanged("what gift refuses", x, before);
        for (int k = 1; k <= 9; k++) {
            Check.due("gift(0, 1)", x.gift(0, 1), k);
            Check.due("gift(1, -1)", x.gift(1, -1), -k);
        }
        Check.due("a tenth gift", x.gift(0, 1), FULL);
        Check.due("a tenth insult", x.gift(1, -1), FULL);
        Check.due("acts", x.count(7), 18);
        Check.due("an insult then", x.gift(0, -1), 8);
        Check.due("gifts of it", x.person(0, 2), 8);
        Check.due("gifts of the other", x.person(1, 2), -9);
    }

    private static void doorsAreBuilt() {
        DoorVotes x = Check.townOf(FOUR);
        String before = Check.told(x);
        Check.due("build(0, 0)", x.build(0, 0), BAD);
        Check.due("build(0, 3)", x.build(0, 3), BAD);
        Check.due("build(3, 0)", x.build(3, 0), BAD);
        Check.due("build(-1, 0)", x.build(-1, 0), BAD);
        Check.unchanged("what build refuses", x, before);
        Check.due("build(2, 0)", x.build(2, 0), 2);
        Check.due("a", x.door(2, 0), 2);
        Check.due("b", x.door(2, 1), 0);
        Check.due("it opens to all", x.at(1, 2, 4), 1);
        Check.due("a knock at it", x.knock(0, 2), 1);
        Check.due("room", x.person(0, 0), 2);
        for (int k = 3; k < 6; k++) {
            Check.due("build(0, 1)", x.build(0, 1), k);
        }
        Check.due("a seventh door", x.build(0, 1), FULL);
        Check.due("a seventh door that is none", x.build(1, 1), BAD);
        Check.due("doors", x.count(2), 6);
        Check.due("acts", x.count(7), 5);
    }

    private static void votesFade() {
        DoorVotes x = Check.townOf("h2,2;d0,1;p0,4;k0,4;");
        for (int k = 0; k < 3; k++) {
            x.knock(0, 0);
        }
        x.knock(1, 0);
        x.days(2);
        Check.due("fresh, two days gone", x.at(0, 0, 2), 3);
        Check.due("weight, two days gone", x.at(0, 0, 3), 3);
        x.days(1);
        Check.due("fresh, three days gone", x.at(0, 0, 2), 1);
        Check.due("weight, three days gone", x.at(0, 0, 3), 1);
        Check.due("times do not fade", x.at(0, 0, 0), 3);
        Check.due("fresh of a child fades", x.at(1, 0, 2), 0);
        Check.due("weight of a child does not", x.at(1, 0, 3), 1);
        Check.due("a knock", x.knock(0, 0), 1);
        Check.due("fresh again", x.at(0, 0, 2), 4);
        DoorVotes y = Check.townOf("h2,0;d0,1;p0,4;");
        y.knock(0, 0);
        y.days(24);
        Check.due("nothing fades, if fades is 0", y.at(0, 0, 2), 1);
        Check.due("last", y.at(0, 0, 1), 0);
    }

    private static void weightsByKind() {
        DoorVotes x = Check.townOf("h2,1;d0,1;d0,1;p0,6;f0,6;s0,6;k0,6;n0,6;");
        int[][][] due = {
            {{0, 1, 2, 3, 4}, {9, 10, 11, 12, 13}, {0, 1, 2, 0, 4}, {0, 1, 1, 1, 1}, {0, 2, 2, 2, 2}},
            {{0, 1, 2, 3, 4}, {0, 1, 2, 3, 4}, {0, 1, 2, 0, 4}, {0, 1, 1, 1, 1}, {0, 2, 2, 2, 2}}};
        for (int door = 0; door < 2; door++) {
            for (int times = 0; times <= 4; times++) {
                for (int p = 0; p < 5; p++) {
                    Check.due("weight of " + p + " at " + door, x.at(p, door, 3), due[door][p][times]);
                    x.knock(p, door);
                }
            }
        }
        x.days(2);
        int[] faded = {2, 11, 2, 1, 2};
        for (int p = 0; p < 5; p++) {
            Check.due("faded weight of " + p, x.at(p, 0, 3), faded[p]);
        }
    }

    private static void timesStayAt99() {
        DoorVotes x = Check.townOf("h2,3;d0,1;s0,4;p0,4;");
        for (int k = 0; k < 98; k++) {
            x.knock(0, 0);
        }
        x.days(1);
        Check.due("the knock 99", x.knock(0, 0), 1);
        Check.due("times", x.at(0, 0, 0), 99);
        x.days(1);
        Check.due("the knock 100", x.knock(0, 0), 1);
        Check.due("times stay", x.at(0, 0, 0), 99);
        Check.due("last does not", x.at(0, 0, 1), 2);
        Check.due("the room does not", x.person(0, 0), 0);
        Check.due("a slammer's weight of 99", x.at(0, 0, 3), 0);
        x.undo();
        Check.due("times of 99 undone", x.at(0, 0, 0), 99);
        Check.due("last of 99 undone", x.at(0, 0, 1), 1);
        Check.due("room of 99 undone", x.person(0, 0), 1);
        x.undo();
        x.undo();
        Check.due("times of 98", x.at(0, 0, 0), 98);
    }

    private static void votesAtADoor() {
        DoorVotes x = Check.townOf("h2,0;d0,1;p0,4;p0,4;p0,4;p0,3;");
        x.knock(0, 0);
        x.knock(0, 0);
        x.knock(1, 0);
        x.knock(2, 0);
        votes(x, 3, 1, 4, 0);
        votes(x, 0, 1, 2, 0);
        x.gift(1, -1);
        votes(x, 3, 1, 3, 0);
        x.gift(1, -1);
        votes(x, 3, 1, 3, 1);
        x.gift(2, -1);
        x.gift(2, -1);
        votes(x, 3, 0, 2, 2);
        votes(x, 2, 1, 2, 1);
        x.gift(0, -1);
        votes(x, 3, 0, 0, 2);
        DoorVotes y = Check.townOf("h2,0;d0,1;p0,3;p0,3;");
        y.knock(0, 0);
        votes(y, 1, 0, 0, 0);
        votes(y, 0, 1, 0, 0);
        Check.due("a weight without a vote keeps it shut", y.knock(1, 0), 0);
    }

    private static void votes(DoorVotes x, int person, int opens, int inFavour, int against) {
        Check.due("opens to " + person, x.at(person, 0, 4), opens);
        Check.due("for " + person, x.at(person, 0, 5), inFavour);
        Check.due("against " + person, x.at(person, 0, 6), against);
    }

    private static void favours() {
        DoorVotes x = Check.townOf(FOUR);
        int[][] due = {{BAD, 6, -8, 1}, {4, BAD, -1, -1}, {0, 0, BAD, 0}, {0, 0, 0, BAD}};
        for (int p = 0; p < 4; p++) {
            for (int c = 0; c < 4; c++) {
                Check.due("favour(" + p + ", " + c + ")", x.favour(p, c), due[p][c]);
            }
        }
        x.gift(2, 1);
        x.gift(2, 1);
        x.gift(2, 1);
        Check.due("favour of a nurse with gifts", x.favour(2, 1), 1);
        Check.due("favour of a nurse for its foe", x.favour(2, 0), 0);
        x.gift(0, -1);
        Check.due("insults", x.favour(0, 1), 5);
        Check.due("insults for all", x.favour(0, 3), 0);
        Check.due("favour(4, 0)", x.favour(4, 0), BAD);
        Check.due("favour(0, 4)", x.favour(0, 4), BAD);
        Check.due("favour(0, -1)", x.favour(0, -1), BAD);
        Check.due("favour(-1, 0)", x.favour(-1, 0), BAD);
    }

    private static void whatIsAskedIsRefused() {
        DoorVotes x = Check.townOf(FOUR);
        String before = Check.told(x);
        Check.due("person(0, -1)", x.person(0, -1), BAD);
        Check.due("person(0, 6)", x.person(0, 6), BAD);
        Check.due("person(4, 0)", x.person(4, 0), BAD);
        Check.due("person(-1, 0)", x.person(-1, 0), BAD);
        Check.due("door(2, 0)", x.door(2, 0), BAD);
        Check.due("door(-1, 0)", x.door(-1, 0), BAD);
        Check.due("door(0, 3)", x.door(0, 3), BAD);
        Check.due("door(0, -1)", x.door(0, -1), BAD);
        Check.due("at(4, 0, 0)", x.at(4, 0, 0), BAD);
        Check.due("at(-1, 0, 0)", x.at(-1, 0, 0), BAD);
        Check.due("at(0, 2, 0)", x.at(0, 2, 0), BAD);
        Check.due("at(0, -1, 0)", x.at(0, -1, 0), BAD);
        Check.due("at(0, 0, 7)", x.at(0, 0, 7), BAD);
        Check.due("at(0, 0, -1)", x.at(0, 0, -1), BAD);
        Check.unchanged("what is BAD", x, before);
    }
}
