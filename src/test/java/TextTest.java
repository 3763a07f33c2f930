/** Promises 6 to 8: the tape, TOWNS and FAULTS. */
public final class TextTest {
    private static final String LAW = "h2,0;";
    private static final String DOOR = LAW + "d0,1;";
    private static final String SIX = DOOR + "p0,0;p0,1;p0,2;p1,3;p1,4;p1,5;";
    private static final String EIGHT = SIX + "i0,1;i0,2;i0,3;i0,4;u0,5;u1,2;u1,3;u5,1;";

    private TextTest() {
    }

    public static void main(String[] args) {
        theTapeIsFed();
        townsAreRead();
        faultsOfTheLaw();
        faultsOfDoors();
        faultsOfPeople();
        faultsOfTies();
        theFirstFaultIsTold();
        aFaultLeavesAllAsItIs();
        aTownStandsInPlaceOfTheOneBefore();
        Check.end();
    }

    private static void theTapeIsFed() {
        DoorVotes x = new DoorVotes();
        Check.due("feed(-1)", x.feed(-1), DoorVotes.BAD);
        Check.due("feed(256)", x.feed(256), DoorVotes.BAD);
        Check.due("count(8)", x.count(8), 0);
        for (int k = 1; k <= 120; k++) {
            Check.due("feed, the byte " + k, x.feed(k == 1 ? 255 : k == 2 ? 0 : 'd'), k);
        }
        Check.due("feed(100) of a full tape", x.feed(100), DoorVotes.FULL);
        Check.due("feed(256) of a full tape", x.feed(256), DoorVotes.BAD);
        Check.due("count(8) of a full tape", x.count(8), 120);
        Check.due("town() of a byte 255", x.town(), -1000100);
        Check.due("count(8) of a tape that was read", x.count(8), 0);
        Check.due("feed(104) then", x.feed(104), 1);
    }

    private static void read(String text, int people) {
        DoorVotes x = new DoorVotes();
        Check.due("town() of " + text, Check.tell(x, text), people);
        Check.due("fault() of " + text, x.fault(), 0);
        Check.due("count(3) of " + text, x.count(3), people);
        Check.due("count(8) of " + text, x.count(8), 0);
    }

    private static void townsAreRead() {
        read(DOOR + "p0,0;", 1);
        read("h6,9;d0,5;d5,0;n5,6;", 1);
        read("h02,09;d00,01;k01,06;s0,00;u01,00;", 2);
        read(LAW + "d0,1;d0,1;d0,1;d1,0;d1,0;d1,0;f0,0;", 1);
        read(SIX, 6);
        read(EIGHT, 6);
        DoorVotes x = Check.townOf("h4,3;d3,1;p2,5;f1,2;s3,4;k0,1;n1,3;i4,0;u1,2;");
        Check.due("rooms", x.count(1), 4);
        Check.due("doors", x.count(2), 1);
        Check.due("people", x.count(3), 5);
        Check.due("day", x.count(4), 0);
        Check.due("ties", x.count(6), 2);
        Check.due("a of the door", x.door(0, 0), 3);
        Check.due("b of the door", x.door(0, 1), 1);
        int[][] people = {{1, 2, 5, 16, 0}, {2, 1, 2, 0, 4}, {3, 3, 4, 0, 2}, {4, 0, 1, 0, 0}, {5, 1, 3, 1, 0}};
        for (int p = 0; p < 5; p++) {
            Check.due("kind of " + p, x.kind(p), people[p][0]);
            Check.due("room of " + p, x.person(p, 0), people[p][1]);
            Check.due("bent of " + p, x.person(p, 1), people[p][2]);
            Check.due("kin of " + p, x.person(p, 4), people[p][3]);
            Check.due("feuds of " + p, x.person(p, 5), people[p][4]);
        }
    }

    private static void faulty(String text, int place, int number) {
        DoorVotes x = new DoorVotes();
        Check.due("town() of '" + text + "'", Check.tell(x, text), -1000100 - place);
        Check.due("fault() of '" + text + "'", x.fault(), number);
        Check.due("count(3) of '" + text + "'", x.count(3), 0);
        Check.due("count(8) of '" + text + "'", x.count(8), 0);
    }

    private static void faultsOfTheLaw() {
        faulty("", 0, 1);
        faulty("H2,0;", 0, 1);
        faulty(" h2,0;", 0, 1);
        faulty("d0,1;", 0, 1);
        faulty("2", 0, 1);
        faulty("h", 1, 1);
        faulty("h,2;", 1, 1);
        faulty("hh", 1, 1);
        faulty("h1,0;", 1, 2);
        faulty("h7,0;", 1, 2);
        faulty("h10,0;", 1, 2);
        faulty("h00,0;", 1, 2);
        faulty("h123,0;", 1, 1);
        faulty("h002,0;", 1, 1);
        faulty("h1234567,0;", 1, 1);
        faulty("h2", 2, 1);
        faulty("h2;", 2, 1);
        faulty("h2 ,0;", 2, 1);
        faulty("h02x", 3, 1);
        faulty("h2,", 3, 1);
        faulty("h2,-1;", 3, 1);
        faulty("h2,10;", 3, 2);
        faulty("h2,99;", 3, 2);
        faulty("h2,000;", 3, 1);
        faulty("h2,0", 4, 1);
        faulty("h2,0,", 4, 1);
        faulty("h2,0\u0000", 4, 1);
    }

    private static void faultsOfDoors() {
        faulty(LAW, 5, 1);
        faulty(LAW + LAW, 5, 1);
        faulty(LAW + "p0,0;", 5, 1);
        faulty(LAW + "i0,1;", 5, 1);
        faulty(LAW + "d", 6, 1);
        faulty(LAW + "d2,0;", 6, 2);
        faulty(LAW + "d0;", 7, 1);
        faulty(LAW + "d0,", 8, 1);
        faulty(LAW + "d0,2;", 8, 2);
        faulty(LAW + "d0,0;", 8, 2);
        faulty(LAW + "d1,01;", 8, 2);
        faulty(LAW + "d1,000;", 8, 1);
        faulty(LAW + "d0,1", 9, 1);
        faulty("h3,0;d2,1;d3,1;", 11, 2);
        String six = LAW + "d0,1;d0,1;d0,1;d0,1;d0,1;d0,1;";
        faulty(six, 35, 1);
        faulty(six + "d0,1;p0,0;", 35, 3);
        faulty(six + "d", 35, 3);
        faulty(six + "h", 35, 1);
    }

    private static void faultsOfPeople() {
        faulty(DOOR, 10, 1);
        faulty(DOOR + "q0,0;", 10, 1);
        faulty(DOOR + "i0,1;", 10, 1);
        faulty(DOOR + "h2,0;", 10, 1);
        faulty(DOOR + "p2,0;", 11, 2);
        faulty(DOOR + "p;", 11, 1);
        faulty(DOOR + "p0,7;", 13, 2);
        faulty(DOOR + "p0,06", 15, 1);
        faulty(DOOR + "p0,0", 14, 1);
        faulty(DOOR + "p0,0;d0,1;", 15, 1);
        faulty(DOOR + "p0,0; ", 15, 1);
        faulty(DOOR + "p0,0;0", 15, 1);
        faulty(DOOR + "p0,0;\u00e9", 15, 1);
        faulty(SIX + "k0,0;", 40, 3);
        faulty(SIX + "n", 40, 3);
        faulty(SIX + "d0,1;", 40, 1);
    }

    private static void faultsOfTies() {
        faulty(DOOR + "p0,0;i0,0;", 18, 2);
        faulty(DOOR + "p0,0;i1,0;", 16, 2);
        faulty(DOOR + "p0,0;i0,1;", 18, 2);
        faulty(SIX + "i6,0;", 41, 2);
        faulty(SIX + "u0,6;", 43, 2);
        faulty(SIX + "u5,5;", 43, 2);
        faulty(SIX + "i0,1;i0,1;", 48, 2);
        faulty(SIX + "i0,1;i1,0;", 48, 2);
        faulty(SIX + "i0,1;u0,1;", 48, 2);
        faulty(SIX + "u3,2;i2,3;", 48, 2);
        faulty(SIX + "i0,1;p0,0;", 45, 1);
        faulty(SIX + "i0,1;d0,1;", 45, 1);
        faulty(SIX + "i0,1;;", 45, 1);
        faulty(SIX + "u0,123;", 43, 1);
        faulty(SIX + "u0,1", 44, 1);
        faulty(EIGHT + "i2,3;", 80, 3);
        faulty(EIGHT + "i0,1;", 80, 3);
        faulty(EIGHT + "u", 80, 3);
        faulty(EIGHT + "p", 80, 1);
    }

    private static void theFirstFaultIsTold() {
        faulty("h9,123;", 1, 2);
        faulty("h2,0;d0,0;x", 8, 2);
        faulty("h2,0;x123", 5, 1);
        faulty("h2,0;d5,5;", 6, 2);
    }

    private static void aFaultLeavesAllAsItIs() {
        DoorVotes x = Check.townOf(DOOR + "p0,4;k0,5;i0,1;");
        x.knock(0, 0);
        x.days(2);
        x.gift(1, 1);
        x.ask(0, 0);
        String before = Check.told(x);
        Check.due("a fault", Check.tell(x, LAW + "d0,1;p0,0;i0,0;"), -1000118);
        Check.due("fault()", x.fault(), 2);
        String then = Check.told(x);
        Check.dueTrue("a fault leaves all as it is", then.equals(before.substring(0, before.length() - 1) + "2"));
        Check.due("undo() behind a fault", x.undo(), 3);
        Check.due("another fault", x.town(), -1000100);
        Check.due("fault() then", x.fault(), 1);
        Check.due("a town", Check.tell(x, DOOR + "p0,0;"), 1);
        Check.due("fault() behind a town", x.fault(), 1);
    }

    private static void aTownStandsInPlaceOfTheOneBefore() {
        DoorVotes x = Check.townOf("h3,1;d0,1;d1,2;p0,4;k0,5;n0,5;i0,1;u1,2;");
        x.row(2, 0, 3);
        x.knock(0, 0);
        x.knock(0, 1);
        x.gift(1, 1);
        x.days(3);
        x.build(0, 2);
        x.drawn(9, 9, 0);
        Check.due("another town", Check.tell(x, LAW + "d0,1;d1,0;s1,3;p0,3;"), 2);
        int[] counts = {1, 2, 2, 2, 0, 0, 0, 0, 0};
        for (int what = 0; what < 9; what++) {
            Check.due("count(" + what + ") of another town", x.count(what), counts[what]);
        }
        Check.due("undo() of another town", x.undo(), DoorVotes.STATE);
        Check.due("gifts", x.person(1, 2), 0);
        Check.due("kin", x.person(0, 4), 0);
        Check.due("feuds", x.person(1, 5), 0);
        for (int door = 0; door < 2; door++) {
            Check.due("who went through", x.door(door, 2), 0);
            Check.due("last", x.at(0, door, 1), DoorVotes.NONE);
        }
        Check.due("a new door behind another town", x.build(0, 1), 2);
        Check.due("times there", x.at(0, 2, 0), 0);
        Check.due("last there", x.at(0, 2, 1), DoorVotes.NONE);
    }
}
