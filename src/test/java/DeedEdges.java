/** Promises 9 to 17 and what the terms say of WEIGHTS, votes and ACTS: each sentence that names a boundary by itself. */
final class DeedEdges {
    private static final int NONE = DoorVotes.NONE, BAD = DoorVotes.BAD, STATE = DoorVotes.STATE, FULL = DoorVotes.FULL;
    private static final int FRESH = 2, WEIGHT = 3;
    private static final String ALONE = "h2,0;d0,1;p0,3;";
    private static final String SIX_DOORS = "d0,1;d0,1;d0,1;d0,1;d0,1;d0,1;";
    private static final String SIX = "h6,0;d0,1;d1,2;d2,3;d3,4;d4,5;p0,3;f1,3;s2,3;k3,3;n4,3;p5,3;i0,5;u5,4;";

    private DeedEdges() {
    }

    static void run() {
        times();
        fresh();
        weights();
        favours();
        votes();
        doorsOpen();
        acts();
        undone();
        knocks();
        days();
        gifts();
        doorsAreBuilt();
        ofOne();
        ofADoor();
        ofOneAtADoor();
        ofOneForAnother();
    }

    private static void knockTimes(DoorVotes x, int person, int door, int many) {
        for (int k = 0; k < many; k++) {
            Check.due("knock(" + person + ", " + door + ")", x.knock(person, door), 1);
        }
    }

    private static void giftTimes(DoorVotes x, int person, int by, int many) {
        for (int k = 0; k < many; k++) {
            x.gift(person, by);
        }
    }

    private static void weighs(DoorVotes x, int what, int... due) {
        for (int door = 0; door < due.length; door++) {
            Check.due("at(0, " + door + ", " + what + ")", x.at(0, door, what), due[door]);
        }
    }

    // ---- TIMES, FRESH, WEIGHT

    private static void times() {
        timesAre99AtMost();
        lastIsTheDay();
    }

    private static void timesAre99AtMost() {
        Check.sentence(0, "TIMES: how often one went through a DOOR (99 at most)");
        DoorVotes x = Check.townOf(ALONE);
        Check.due("never", x.at(0, 0, 0), 0);
        knockTimes(x, 0, 0, 98);
        Check.due("98 times", x.at(0, 0, 0), 98);
        knockTimes(x, 0, 0, 1);
        Check.due("99 times", x.at(0, 0, 0), 99);
        Check.due("its room", x.person(0, 0), 1);
        knockTimes(x, 0, 0, 1);
        Check.due("100 times", x.at(0, 0, 0), 99);
        Check.due("its room goes on", x.person(0, 0), 0);
        Check.due("all its times", x.person(0, 3), 99);
        Check.due("all times", x.count(5), 99);
        Check.due("fresh", x.at(0, 0, FRESH), 99);
        x.undo();
        Check.due("undone once", x.at(0, 0, 0), 99);
        x.undo();
        Check.due("undone twice", x.at(0, 0, 0), 98);
    }

    private static void lastIsTheDay() {
        Check.sentence(0, "LAST: on what DAY.");
        DoorVotes x = Check.townOf(ALONE);
        Check.due("never", x.at(0, 0, 1), NONE);
        x.days(1);
        Check.due("never, a day later", x.at(0, 0, 1), NONE);
        x.undo();
        knockTimes(x, 0, 0, 1);
        Check.due("on day 0", x.at(0, 0, 1), 0);
        x.days(3);
        Check.due("three days later", x.at(0, 0, 1), 0);
        knockTimes(x, 0, 0, 1);
        Check.due("on day 3", x.at(0, 0, 1), 3);
    }

    private static void fresh() {
        noMoreThanFadesDays();
        allIfFadesIs0();
        halfIsCut();
    }

    private static void noMoreThanFadesDays() {
        Check.sentence(0, "FRESH is TIMES, if no more than FADES DAYS are gone since LAST");
        for (int fades = 1; fades <= 9; fades++) {
            DoorVotes x = Check.townOf("h2," + fades + ";d0,1;p0,3;");
            x.days(2);
            knockTimes(x, 0, 0, 3);
            Check.due("today", x.at(0, 0, FRESH), 3);
            x.days(fades);
            Check.due(fades + " days gone", x.at(0, 0, FRESH), 3);
            x.days(1);
            Check.due(fades + " days gone, and one more", x.at(0, 0, FRESH), 1);
            knockTimes(x, 0, 0, 1);
            Check.due("once more", x.at(0, 0, FRESH), 4);
        }
    }

    private static void allIfFadesIs0() {
        Check.sentence(0, "(all of them, if FADES is 0)");
        DoorVotes x = Check.townOf(ALONE);
        knockTimes(x, 0, 0, 3);
        x.days(1);
        Check.due("a day gone", x.at(0, 0, FRESH), 3);
        for (int k = 0; k < 41; k++) {
            x.days(24);
        }
        Check.due("985 days gone", x.at(0, 0, FRESH), 3);
        Check.due("weight", x.at(0, 0, WEIGHT), 3);
    }

    private static DoorVotes goneThrough(char sort, int... times) {
        DoorVotes x = Check.townOf("h2,1;" + SIX_DOORS + sort + "0,3;");
        for (int door = 0; door < times.length; door++) {
            knockTimes(x, 0, door, times[door]);
        }
        return x;
    }

    private static void halfIsCut() {
        Check.sentence(0, "else half of them (cut).");
        DoorVotes x = goneThrough('p', 0, 1, 2, 3, 4, 99);
        weighs(x, FRESH, 0, 1, 2, 3, 4, 99);
        x.days(2);
        weighs(x, FRESH, 0, 0, 1, 1, 2, 49);
        weighs(x, 0, 0, 1, 2, 3, 4, 99);
        Check.sentence(0, "All that is divided is cut towards 0");
        weighs(x, FRESH, 0, 0, 1, 1, 2, 49);
    }

    private static void weights() {
        Check.sentence(0, "of a passer FRESH");
        DoorVotes x = goneThrough('p', 0, 1, 2, 3, 4, 5);
        weighs(x, WEIGHT, 0, 1, 2, 3, 4, 5);
        x.days(2);
        weighs(x, WEIGHT, 0, 0, 1, 1, 2, 2);
        Check.sentence(0, "of a founder as a passer, and 9 more at DOOR 0");
        x = goneThrough('f', 0, 0, 1, 3);
        weighs(x, WEIGHT, 9, 0, 1, 3, 0, 0);
        x.days(2);
        weighs(x, WEIGHT, 9, 0, 0, 1, 0, 0);
        knockTimes(x, 0, 0, 3);
        weighs(x, WEIGHT, 12);
        x.days(2);
        weighs(x, WEIGHT, 10);
        Check.sentence(0, "of a slammer as a passer, but 0 if TIMES by 3 leaves 0");
        weighs(goneThrough('s', 0, 1, 2, 3, 4, 5), WEIGHT, 0, 1, 2, 0, 4, 5);
        x = goneThrough('s', 1, 6, 7, 8, 98, 99);
        weighs(x, WEIGHT, 1, 0, 7, 8, 98, 0);
        x.days(2);
        weighs(x, WEIGHT, 0, 0, 3, 4, 49, 0);
        Check.sentence(0, "of a child 1, if TIMES is not 0, else 0");
        x = goneThrough('k', 0, 1, 2, 3, 99);
        weighs(x, WEIGHT, 0, 1, 1, 1, 1, 0);
        x.days(2);
        weighs(x, WEIGHT, 0, 1, 1, 1, 1, 0);
        Check.sentence(0, "of a nurse twice that.");
        x = goneThrough('n', 0, 1, 2, 3, 99);
        weighs(x, WEIGHT, 0, 2, 2, 2, 2, 0);
        x.days(2);
        weighs(x, WEIGHT, 0, 2, 2, 2, 2, 0);
    }

    // ---- FAVOUR, votes, and what OPENS

    private static void favours() {
        bentAndGifts();
        kinAndFeuds();
        nurses();
    }

    private static void bentAndGifts() {
        Check.sentence(0, "BENT less 3, GIFTS that came to it (below 0: insults)");
        for (int bent = 0; bent <= 6; bent++) {
            DoorVotes x = Check.townOf("h2,0;d0,1;s0," + bent + ";p0,3;");
            Check.due("bent " + bent, x.favour(0, 1), bent - 3);
            giftTimes(x, 0, 1, 9);
            Check.due("with 9 gifts", x.favour(0, 1), bent + 6);
            giftTimes(x, 0, -1, 18);
            Check.due("with 9 insults", x.favour(0, 1), bent - 12);
            Check.due("of the other, who got none", x.favour(1, 0), 0);
        }
    }

    private static void kinAndFeuds() {
        Check.sentence(0, "5 more if they are kin, 9 less if there is a feud");
        DoorVotes x = Check.townOf("h2,0;d0,1;p0,0;p0,6;k0,3;i1,2;u0,2;");
        int[][] due = {{BAD, -3, -12}, {3, BAD, 8}, {-9, 5, BAD}};
        for (int p = 0; p < 3; p++) {
            for (int c = 0; c < 3; c++) {
                Check.due("favour(" + p + ", " + c + ")", x.favour(p, c), due[p][c]);
            }
        }
        giftTimes(x, 0, -1, 9);
        giftTimes(x, 1, 1, 9);
        Check.due("the least there is", x.favour(0, 2), -21);
        Check.due("the most there is", x.favour(1, 2), 17);
    }

    private static void nurses() {
        Check.sentence(0, "of a nurse, if that is below 0, 0.");
        DoorVotes x = Check.townOf("h2,0;d0,1;n0,3;p0,3;n0,0;n0,6;i2,1;u3,1;");
        Check.due("0", x.favour(0, 1), 0);
        x.gift(0, -1);
        Check.due("-1", x.favour(0, 1), 0);
        giftTimes(x, 0, 1, 2);
        Check.due("1", x.favour(0, 1), 1);
        Check.due("-3 for one", x.favour(2, 0), 0);
        Check.due("2 for its kin", x.favour(2, 1), 2);
        Check.due("-6 for its foe", x.favour(3, 1), 0);
        giftTimes(x, 3, 1, 6);
        Check.due("0 for its foe, by gifts", x.favour(3, 1), 0);
        x.gift(3, 1);
        Check.due("1 for its foe, by gifts", x.favour(3, 1), 1);
        Check.due("a foe that is no nurse", x.favour(1, 3), -9);
    }

    private static void standing(DoorVotes x, int person, int door, int opens, int inFavour, int against) {
        String at = " at door " + door + " to " + person;
        Check.due("opens" + at, x.at(person, door, 4), opens);
        Check.due("for" + at, x.at(person, door, 5), inFavour);
        Check.due("against" + at, x.at(person, door, 6), against);
    }

    private static void votes() {
        Check.sentence(0, "It votes for the other one, if that is above 0, against it, if it is below 0, else not at all.");
        DoorVotes x = Check.townOf("h2,0;d0,1;p0,3;p0,3;");
        knockTimes(x, 0, 0, 1);
        standing(x, 1, 0, 0, 0, 0);
        x.gift(0, 1);
        standing(x, 1, 0, 1, 1, 0);
        giftTimes(x, 0, -1, 2);
        standing(x, 1, 0, 0, 0, 1);
        Check.sentence(0, "FOR, AGAINST: WEIGHTS together of those who vote so at a DOOR on one.");
        x = Check.townOf("h2,0;d0,1;d0,1;p0,4;p0,4;p0,4;p0,4;p0,3;p0,3;");
        for (int p = 0; p < 5; p++) {
            knockTimes(x, p, 0, p + 1);
        }
        standing(x, 5, 0, 1, 10, 0);
        standing(x, 5, 1, 1, 0, 0);
        giftTimes(x, 2, -1, 2);
        giftTimes(x, 3, -1, 2);
        standing(x, 5, 0, 0, 3, 7);
        standing(x, 3, 0, 0, 3, 3);
    }

    private static void doorsOpen() {
        neverItself();
        moreThanThoseAgainst();
        nobodyElseHasAWeight();
    }

    private static void neverItself() {
        Check.sentence(0, "if WEIGHTS of those who vote for it (never itself)");
        DoorVotes x = Check.townOf("h2,0;d0,1;p0,6;p0,0;");
        knockTimes(x, 0, 0, 5);
        knockTimes(x, 1, 0, 1);
        standing(x, 0, 0, 0, 0, 1);
        standing(x, 1, 0, 1, 5, 0);
        DoorVotes y = Check.townOf("h2,0;d0,1;f0,0;p0,3;");
        standing(y, 0, 0, 1, 0, 0);
        standing(y, 1, 0, 0, 0, 9);
    }

    private static void moreThanThoseAgainst() {
        Check.sentence(0, "are together more than of those against it");
        DoorVotes x = Check.townOf("h2,0;d0,1;p0,4;p0,4;p0,4;p0,3;");
        knockTimes(x, 0, 0, 1);
        knockTimes(x, 1, 0, 1);
        knockTimes(x, 2, 0, 2);
        x.image(0);
        giftTimes(x, 2, -1, 2);
        standing(x, 3, 0, 0, 2, 2);
        x.restore(0);
        knockTimes(x, 1, 0, 1);
        giftTimes(x, 2, -1, 2);
        standing(x, 3, 0, 1, 3, 2);
        x.restore(0);
        knockTimes(x, 2, 0, 1);
        giftTimes(x, 2, -1, 2);
        standing(x, 3, 0, 0, 2, 3);
    }

    private static void nobodyElseHasAWeight() {
        Check.sentence(0, "or if nobody else has a WEIGHT there that is not 0.");
        DoorVotes x = Check.townOf("h2,0;d0,1;p0,0;p0,0;p0,0;");
        standing(x, 1, 0, 1, 0, 0);
        x = Check.townOf("h2,0;d0,1;s0,0;p0,3;");
        int[] opens = {1, 0, 0, 1, 0, 0, 1};
        for (int k = 0; k < opens.length; k++) {
            Check.due("a slammer went " + k + " times", x.at(1, 0, 4), opens[k]);
            knockTimes(x, 0, 0, 1);
        }
        x = Check.townOf("h2,1;d0,1;p0,0;p0,3;");
        knockTimes(x, 0, 0, 1);
        x.days(1);
        standing(x, 1, 0, 0, 0, 1);
        x.days(1);
        standing(x, 1, 0, 1, 0, 0);
        x = Check.townOf("h2,0;d0,1;d0,1;f0,3;p0,3;");
        standing(x, 1, 0, 0, 0, 0);
        standing(x, 1, 1, 1, 0, 0);
        knockTimes(x, 0, 1, 1);
        standing(x, 1, 1, 0, 0, 0);
    }

    // ---- ACTS

    private static void acts() {
        theOldestIsForgotten();
        theLatestFirst();
        oneGoesToTheOtherRoom();
        notLetIsAnActToo();
        giftsAreMinus9To9();
        aNewDoorIsBetweenTwoRooms();
    }

    private static void theOldestIsForgotten() {
        Check.sentence(0, "ACTS (24 at most are kept, of more the oldest is forgotten");
        DoorVotes x = Check.townOf(ALONE);
        for (int k = 1; k <= 24; k++) {
            knockTimes(x, 0, 0, 1);
            Check.due("acts", x.count(7), k);
        }
        knockTimes(x, 0, 0, 1);
        Check.due("acts, one more", x.count(7), 24);
        for (int k = 23; k >= 0; k--) {
            Check.due("undo()", x.undo(), k);
        }
        Check.due("undo() of the oldest", x.undo(), STATE);
        Check.due("it stays done", x.at(0, 0, 0), 1);
        x.days(24);
        x.days(24);
        Check.due("acts of 48 days", x.count(7), 24);
        for (int k = 0; k < 24; k++) {
            x.undo();
        }
        Check.due("24 days stay", x.count(4), 24);
    }

    private static void theLatestFirst() {
        Check.sentence(0, "each can be undone, the latest first)");
        DoorVotes x = Check.townOf("h3,0;d0,1;d1,2;p0,3;p1,3;");
        knockTimes(x, 0, 0, 1);
        x.days(1);
        x.gift(1, 1);
        x.gift(0, -1);
        x.build(0, 2);
        knockTimes(x, 0, 1, 1);
        Check.due("not let", x.knock(1, 0), 0);
        Check.due("acts", x.count(7), 7);
        int[][] due = {{2, 1, -1, 1, 3, 2}, {1, 1, -1, 1, 3, 1}, {1, 1, -1, 1, 2, 1}, {1, 1, 0, 1, 2, 1},
            {1, 1, 0, 0, 2, 1}, {1, 0, 0, 0, 2, 1}, {0, 0, 0, 0, 2, 0}};
        for (int k = 0; k < due.length; k++) {
            Check.due("undo()", x.undo(), 6 - k);
            int[] now = {x.person(0, 0), x.count(4), x.person(0, 2), x.person(1, 2), x.count(2), x.count(5)};
            for (int i = 0; i < now.length; i++) {
                Check.due("number " + i + " behind undo " + k, now[i], due[k][i]);
            }
        }
        Check.due("last is never again", x.at(0, 0, 1), NONE);
    }

    private static void oneGoesToTheOtherRoom() {
        Check.sentence(0, "if it OPENS, one goes to its other ROOM (TIMES 1 more, LAST is now)");
        DoorVotes x = Check.townOf("h6,0;d5,0;d0,5;p0,3;");
        int[] doors = {0, 0, 1, 1, 0, 1};
        int[] rooms = {5, 0, 5, 0, 5, 0};
        int[] times = {1, 2, 1, 2, 3, 3};
        for (int k = 0; k < doors.length; k++) {
            x.days(1);
            knockTimes(x, 0, doors[k], 1);
            Check.due("room", x.person(0, 0), rooms[k]);
            Check.due("times", x.at(0, doors[k], 0), times[k]);
            Check.due("last", x.at(0, doors[k], 1), k + 1);
        }
        Check.due("last at the other door", x.at(0, 0, 1), 5);
    }

    private static void notLetIsAnActToo() {
        Check.sentence(0, "if not, nothing (an ACT, too)");
        DoorVotes x = Check.townOf("h2,0;d0,1;p0,3;p0,3;");
        knockTimes(x, 0, 0, 1);
        String before = Check.told(x);
        Check.due("not let", x.knock(1, 0), 0);
        Check.due("acts", x.count(7), 2);
        Check.due("its room", x.person(1, 0), 0);
        Check.due("its times", x.at(1, 0, 0), 0);
        Check.due("never", x.at(1, 0, 1), NONE);
        Check.due("undo()", x.undo(), 1);
        Check.unchanged("a knock that was not let, undone,", x, before);
        for (int k = 0; k < 24; k++) {
            Check.due("not let", x.knock(1, 0), 0);
        }
        Check.due("acts", x.count(7), 24);
        for (int k = 0; k < 24; k++) {
            x.undo();
        }
        Check.due("the knock that was let is forgotten", x.undo(), STATE);
        Check.due("it stays", x.person(0, 0), 1);
    }

    private static void giftsAreMinus9To9() {
        Check.sentence(0, "a gift (GIFTS of one 1 more) or an insult (1 less; -9 to 9)");
        DoorVotes x = Check.townOf("h2,0;d0,1;p0,3;p0,3;");
        for (int k = 1; k <= 9; k++) {
            Check.due("gift " + k, x.gift(0, 1), k);
        }
        Check.due("gift 10", x.gift(0, 1), FULL);
        for (int k = 8; k >= -9; k--) {
            Check.due("insult to " + k, x.gift(0, -1), k);
        }
        Check.due("insult 10", x.gift(0, -1), FULL);
        Check.due("gifts", x.person(0, 2), -9);
        Check.due("the other got none", x.person(1, 2), 0);
    }

    private static void aNewDoorIsBetweenTwoRooms() {
        Check.sentence(0, "a new DOOR between two ROOMS.");
        DoorVotes x = Check.townOf("h6,0;d0,1;p0,0;p5,0;");
        knockTimes(x, 0, 0, 1);
        Check.due("build(5, 0)", x.build(5, 0), 1);
        Check.due("nobody went through it", x.door(1, 2), 0);
        standing(x, 1, 1, 1, 0, 0);
        knockTimes(x, 1, 1, 1);
        Check.due("room", x.person(1, 0), 0);
        x.undo();
        x.undo();
        Check.due("it is gone", x.door(1, 0), BAD);
        Check.due("no knock at it", x.knock(1, 1), BAD);
        Check.due("one that was gone through, built anew", x.build(5, 0), 1);
        Check.due("nobody went through it", x.door(1, 2), 0);
        Check.due("never", x.at(1, 1, 1), NONE);
    }

    // ---- the calls

    private static void undone() {
        Check.sentence(9, "The latest ACT is undone: how many can be undone yet.");
        DoorVotes x = Check.townOf(ALONE);
        x.days(3);
        Check.due("of three", x.undo(), 2);
        Check.due("of two", x.undo(), 1);
        Check.due("of one", x.undo(), 0);
        Check.due("day", x.count(4), 0);
        Check.sentence(9, "STATE: none.");
        Check.due("of none", x.undo(), STATE);
        Check.due("day", x.count(4), 0);
        Check.due("acts", x.count(7), 0);
        x.days(1);
        x.image(0);
        x.restore(0);
        Check.due("behind restore", x.undo(), STATE);
        x.days(1);
        Check.tell(x, ALONE);
        Check.due("behind town", x.undo(), STATE);
        Check.due("without a town", new DoorVotes().undo(), STATE);
        x.gift(0, 2);
        x.days(0);
        x.knock(0, 1);
        x.build(0, 0);
        Check.due("behind what is refused", x.undo(), STATE);
    }

    private static void knocks() {
        Check.sentence(10, "A KNOCK: 1 let, 0 not.");
        DoorVotes x = Check.townOf("h2,0;d0,1;p0,3;p0,3;");
        Check.due("let", x.knock(0, 0), 1);
        Check.due("not", x.knock(1, 0), 0);
        Check.sentence(10, "BAD; STATE: the DOOR is not of its ROOM.");
        DoorVotes y = Check.townOf(SIX);
        Check.bounds("knock(?, 0)", v -> y.knock(v, 0), 0, 5);
        Check.bounds("knock(0, ?)", v -> y.knock(0, v), 0, 4);
        DoorVotes z = Check.townOf(SIX);
        for (int p = 0; p < 6; p++) {
            for (int d = 0; d < 5; d++) {
                boolean ofItsRoom = d == p || d == p - 1;
                if (!ofItsRoom) {
                    Check.due("knock(" + p + ", " + d + ")", z.knock(p, d), STATE);
                }
            }
        }
        Check.due("no act", z.count(7), 0);
        Check.due("nobody and a door that is none", z.knock(6, 5), BAD);
    }

    private static void days() {
        Check.sentence(11, "n DAYS (1 to 24), an ACT each: the DAY.");
        DoorVotes x = Check.townOf(ALONE);
        Check.due("days(1)", x.days(1), 1);
        Check.due("acts", x.count(7), 1);
        Check.due("days(24)", x.days(24), 25);
        Check.due("acts", x.count(7), 24);
        Check.due("undo()", x.undo(), 23);
        Check.due("the day", x.count(4), 24);
        Check.sentence(11, "BAD; STATE: no TOWN (ahead of BAD); FULL: more than 999 would be gone.");
        Check.bounds("days(?)", v -> x.days(v), 1, 24);
        DoorVotes none = new DoorVotes();
        for (int n : new int[] {1, 24, 0, 25, -1, Integer.MAX_VALUE}) {
            Check.due("days(" + n + ") without a town", none.days(n), STATE);
        }
        DoorVotes y = Check.townOf(ALONE);
        for (int k = 0; k < 41; k++) {
            y.days(24);
        }
        Check.due("to 1000", y.days(16), FULL);
        Check.due("nothing of it", y.count(4), 984);
        Check.due("to 999", y.days(15), 999);
        Check.due("one more", y.days(1), FULL);
        Check.due("what is BAD then", y.days(25), BAD);
        Check.due("the day", y.count(4), 999);
    }

    private static void gifts() {
        Check.sentence(12, "A gift (by = 1), an insult (-1) to one: GIFTS then.");
        DoorVotes x = Check.townOf(SIX);
        Check.due("a gift", x.gift(5, 1), 1);
        Check.due("an insult", x.gift(0, -1), -1);
        Check.due("an insult to one with a gift", x.gift(5, -1), 0);
        Check.sentence(12, "BAD; FULL: they would be above 9, below -9.");
        Check.bounds("gift(?, 1)", v -> x.gift(v, 1), 0, 5);
        for (int by : new int[] {0, 2, -2, Integer.MIN_VALUE, Integer.MAX_VALUE}) {
            Check.due("gift(0, " + by + ")", x.gift(0, by), BAD);
        }
        giftTimes(x, 1, 1, 9);
        giftTimes(x, 2, -1, 9);
        Check.due("above 9", x.gift(1, 1), FULL);
        Check.due("below -9", x.gift(2, -1), FULL);
        Check.due("BAD above 9", x.gift(1, 2), BAD);
        Check.due("gifts", x.person(1, 2), 9);
        Check.due("insults", x.person(2, 2), -9);
        Check.due("back from 9", x.gift(1, -1), 8);
        Check.due("back from -9", x.gift(2, 1), -8);
    }

    private static void doorsAreBuilt() {
        Check.sentence(13, "A new DOOR: its number.");
        DoorVotes x = Check.townOf("h6,0;d0,1;p0,3;");
        for (int door = 1; door < 6; door++) {
            Check.due("build(" + door + ", 0)", x.build(door, 0), door);
            Check.due("its a", x.door(door, 0), door);
            Check.due("its b", x.door(door, 1), 0);
        }
        Check.sentence(13, "BAD: alike, too; FULL: 6.");
        Check.due("a seventh", x.build(0, 1), FULL);
        Check.due("doors", x.count(2), 6);
        Check.due("a seventh of rooms alike", x.build(1, 1), BAD);
        x.undo();
        Check.due("a sixth", x.build(0, 1), 5);
        DoorVotes y = Check.townOf("h6,0;d0,1;p0,3;");
        for (int room = 0; room < 6; room++) {
            Check.due("alike", y.build(room, room), BAD);
        }
        Check.bounds("build(?, 1)", v -> y.build(v, 1), 0, 5);
        Check.bounds("build(1, ?)", v -> y.build(1, v), 0, 5);
        Check.due("a room that a lesser town has not", Check.townOf(ALONE).build(0, 2), BAD);
    }

    private static void ofOne() {
        Check.sentence(14, "Of one: 0 ROOM, 1 BENT, 2 GIFTS, 3 all TIMES, 4 kin (bits), 5 feuds (bits).");
        DoorVotes x = Check.townOf(SIX);
        knockTimes(x, 5, 4, 1);
        knockTimes(x, 5, 3, 1);
        x.gift(5, -1);
        int[] due = {3, 3, -1, 2, 0b000001, 0b010000};
        for (int what = 0; what < 6; what++) {
            Check.due("person(5, " + what + ")", x.person(5, what), due[what]);
        }
        Check.due("kin of 0", x.person(0, 4), 0b100000);
        Check.due("feuds of 4", x.person(4, 5), 0b100000);
        Check.sentence(14, "BAD.");
        Check.bounds("person(?, 0)", v -> x.person(v, 0), 0, 5);
        Check.bounds("person(0, ?)", v -> x.person(0, v), 0, 5);
    }

    private static void ofADoor() {
        Check.sentence(15, "Of a DOOR: 0 A, 1 B, 2 people who went through (bits).");
        DoorVotes x = Check.townOf("h6,0;d5,0;d0,5;p0,4;p0,4;p0,4;p0,4;p0,4;p5,4;");
        Check.due("a", x.door(0, 0), 5);
        Check.due("b", x.door(0, 1), 0);
        Check.due("nobody", x.door(0, 2), 0);
        knockTimes(x, 0, 0, 2);
        knockTimes(x, 5, 0, 1);
        Check.due("the first and the last", x.door(0, 2), 0b100001);
        Check.due("nobody at the other", x.door(1, 2), 0);
        Check.sentence(15, "BAD.");
        Check.bounds("door(?, 0)", v -> x.door(v, 0), 0, 1);
        Check.bounds("door(0, ?)", v -> x.door(0, v), 0, 2);
    }

    private static void ofOneAtADoor() {
        Check.sentence(16, "Of one at a DOOR: 0 TIMES, 1 LAST (NONE: never), 2 FRESH, 3 WEIGHT, "
                + "4 whether it OPENS to it (1, 0), 5 FOR, 6 AGAINST.");
        DoorVotes x = Check.townOf("h2,1;d0,1;f0,4;p0,2;p0,3;");
        int[] never = {0, NONE, 0, 9, 1, 0, 0};
        for (int what = 0; what < 7; what++) {
            Check.due("at(0, 0, " + what + ")", x.at(0, 0, what), never[what]);
        }
        knockTimes(x, 0, 0, 3);
        knockTimes(x, 1, 0, 2);
        x.days(2);
        int[] faded = {3, 0, 1, 10, 0, 0, 1};
        for (int what = 0; what < 7; what++) {
            Check.due("at(0, 0, " + what + ")", x.at(0, 0, what), faded[what]);
        }
        standing(x, 2, 0, 1, 10, 1);
        Check.sentence(16, "BAD.");
        Check.bounds("at(?, 0, 0)", v -> x.at(v, 0, 0), 0, 2);
        Check.bounds("at(0, ?, 0)", v -> x.at(0, v, 0), 0, 0);
        Check.bounds("at(0, 0, ?)", v -> x.at(0, 0, v), 0, 6);
    }

    private static void ofOneForAnother() {
        Check.sentence(17, "FAVOUR of one for another one.");
        DoorVotes x = Check.townOf(SIX);
        Check.due("for its kin", x.favour(0, 5), 5);
        Check.due("for its foe", x.favour(5, 4), -9);
        Check.due("of a nurse for its foe", x.favour(4, 5), 0);
        Check.sentence(17, "BAD: alike, too.");
        for (int p = 0; p < 6; p++) {
            Check.due("favour(" + p + ", " + p + ")", x.favour(p, p), BAD);
        }
        Check.bounds("favour(?, 1)", v -> x.favour(v, 1), 0, 5);
        Check.bounds("favour(1, ?)", v -> x.favour(1, v), 0, 5);
    }
}
