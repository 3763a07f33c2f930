/** Promises 18 to 29 and what the terms say is FORETOLD: each sentence that names a boundary by itself. */
final class ForetoldEdges {
    private static final int NONE = DoorVotes.NONE, BAD = DoorVotes.BAD, STATE = DoorVotes.STATE;
    private static final int NULL = -1000011, PLACE = -1000012;
    private static final int MIN = Integer.MIN_VALUE, MAX = Integer.MAX_VALUE;
    /** Two ways of two DOORS from 0 to 3, and a ROOM that no DOOR leads to. */
    private static final String SQUARE = "h5,0;d0,2;d0,1;d1,3;d2,3;p0,3;p0,2;";
    private static final String SIX = "h6,0;d0,1;d1,2;d2,3;d3,4;d4,5;d5,0;p0,3;p1,3;p2,3;p3,3;p4,3;p5,3;";
    private static final String TWO = "h2,0;d0,1;d0,1;p0,5;p0,3;";

    private ForetoldEdges() {
    }

    static void run() {
        nothingChanges();
        ways();
        reach();
        locked();
        gifts();
        parades();
        newDoors();
        bents();
        who();
        awake();
        draws();
        images();
    }

    private static void knockTimes(DoorVotes x, int person, int door, int many) {
        for (int k = 0; k < many; k++) {
            Check.due("knock(" + person + ", " + door + ")", x.knock(person, door), 1);
        }
    }

    private static void insult(DoorVotes x, int person, int many) {
        for (int k = 0; k < many; k++) {
            x.gift(person, -1);
        }
    }

    private static void nothingChanges() {
        Check.sentence(0, "FORETOLD (nothing changes).");
        DoorVotes x = Check.townOf(TWO);
        x.row(0, 0, 2);
        knockTimes(x, 0, 0, 1);
        x.days(1);
        x.gift(1, -1);
        x.ask(0, 0);
        String before = Check.told(x);
        for (int what = 0; what < 2; what++) {
            x.way(0, 1, what);
            x.gifts(1, 0, what);
            x.parade(1, 0, what);
            x.newDoor(1, 1, what);
            x.bents(0, 1, 0, 0, 2, what);
            x.awake(1, 0, 5, what);
            x.drawn(60, 7, what);
        }
        x.reach(0);
        x.locked();
        x.who(0, 1, 0, 0, 2);
        x.image(0);
        Check.unchanged("what is foretold", x, before);
        Check.due("undo()", x.undo(), 2);
        Check.due("what it undoes", x.person(1, 2), 0);
    }

    // ---- WAY, REACH, LOCKED

    private static void way(DoorVotes x, int person, int room, int many, int first) {
        Check.due("way(" + person + ", " + room + ", 0)", x.way(person, room, 0), many);
        Check.due("way(" + person + ", " + room + ", 1)", x.way(person, room, 1), first);
    }

    private static void ways() {
        Check.sentence(0, "WAY of one to a ROOM: the fewest DOORS that OPEN to it now, one behind the other");
        DoorVotes chain = Check.townOf("h6,0;d5,4;d4,3;d3,2;d2,1;d1,0;p0,3;p5,0;");
        for (int room = 1; room < 6; room++) {
            way(chain, 0, room, room, 4);
        }
        way(chain, 1, 0, 5, 0);
        knockTimes(chain, 1, 0, 1);
        way(chain, 0, 4, 4, 4);
        way(chain, 0, 5, NONE, NONE);
        way(chain, 1, 5, 1, 0);
        chain.build(0, 5);
        way(chain, 0, 5, 1, 5);
        way(chain, 0, 4, 4, 4);
        Check.sentence(0, "the first of these (of several the least); NONE.");
        DoorVotes x = Check.townOf(SQUARE);
        way(x, 0, 3, 2, 0);
        knockTimes(x, 1, 0, 1);
        way(x, 0, 3, 2, 1);
        way(x, 0, 2, 3, 1);
        way(x, 0, 4, NONE, NONE);
        DoorVotes twins = Check.townOf("h2,0;d1,0;d0,1;p0,3;p0,2;");
        way(twins, 0, 1, 1, 0);
        knockTimes(twins, 1, 0, 1);
        way(twins, 0, 1, 1, 1);
        Check.sentence(18, "WAY: how many (what = 0), the first DOOR (1; NONE: it is there); NONE.");
        way(x, 0, 0, 0, NONE);
        way(x, 1, 2, 0, NONE);
        way(x, 1, 4, NONE, NONE);
        Check.sentence(18, "BAD.");
        DoorVotes six = Check.townOf(SIX);
        Check.bounds("way(?, 0, 0)", v -> six.way(v, 0, 0), 0, 5);
        Check.bounds("way(0, ?, 0)", v -> six.way(0, v, 0), 0, 5);
        Check.bounds("way(0, 0, ?)", v -> six.way(0, 0, v), 0, 1);
        Check.due("a room that a lesser town has not", twins.way(0, 2, 0), BAD);
    }

    private static void reach() {
        Check.sentence(0, "REACH: ROOMS (bits) to which it has a WAY (its own, too).");
        DoorVotes x = Check.townOf("h6,0;d0,1;d1,5;p0,3;p4,3;p1,2;");
        Check.due("reach(0)", x.reach(0), 0b100011);
        Check.due("its own alone", x.reach(1), 0b010000);
        knockTimes(x, 2, 1, 1);
        Check.due("reach(0), a door shut", x.reach(0), 0b000011);
        Check.due("all rooms", Check.townOf(SIX).reach(5), 0b111111);
        Check.sentence(19, "REACH.");
        Check.due("reach(2)", x.reach(2), 0b100011);
        Check.sentence(19, "BAD.");
        Check.bounds("reach(?)", v -> x.reach(v), 0, 2);
    }

    private static void locked() {
        Check.sentence(0, "LOCKED: people (bits) who have a WAY to no other ROOM.");
        DoorVotes x = Check.townOf("h3,0;d0,1;p0,2;p0,3;p1,3;k2,3;n0,3;p0,3;");
        Check.due("by a room without a door", x.locked(), 0b001000);
        knockTimes(x, 0, 0, 1);
        Check.due("all but who went", x.locked(), 0b111110);
        x.build(2, 0);
        Check.due("a new door frees all of its rooms", x.locked(), 0b000100);
        x.build(2, 1);
        Check.sentence(20, "LOCKED.");
        Check.due("nobody", x.locked(), 0);
        Check.due("the first alone", Check.townOf("h3,0;d0,1;p2,3;p0,3;").locked(), 0b01);
        Check.due("all", Check.townOf("h3,0;d0,1;p2,3;p2,3;").locked(), 0b11);
        Check.sentence(20, "STATE: no TOWN.");
        Check.due("locked()", new DoorVotes().locked(), STATE);
    }

    // ---- GIFTS, by founders, who weigh 9 at DOOR 0 without going through

    private static void gifts(DoorVotes x, int person, int many, int who) {
        Check.due("gifts(" + person + ", 0, 0)", x.gifts(person, 0, 0), many);
        Check.due("gifts(" + person + ", 0, 1)", x.gifts(person, 0, 1), who);
    }

    private static void gifts() {
        noGifts();
        fortyGifts();
        twentyToOne();
        toTheOthers();
        beyondNine();
        ofSeveralTheLeast();
        giftsAreRefused();
    }

    private static void noGifts() {
        Check.sentence(0, "GIFTS for one at a DOOR: the fewest gifts (0 to 40");
        DoorVotes x = Check.townOf("h2,0;d0,1;d0,1;f0,4;p0,0;p0,3;");
        gifts(x, 2, 0, 0);
        Check.due("nobody has a weight there", x.gifts(2, 1, 0), 0);
        Check.due("nobody gets any", x.gifts(2, 1, 1), 0);
        gifts(Check.townOf("h2,0;d0,1;f0,3;p0,3;"), 1, 1, 1);
        gifts(Check.townOf("h2,0;d0,1;f0,2;p0,3;"), 1, 2, 1);
        gifts(Check.townOf("h2,0;d0,1;f0,2;f0,4;p0,3;"), 2, 1, 1);
        justEnoughGifts();
        theFewestComeLater();
    }

    /** Children, who weigh 1: there is no vote to spare. */
    private static void justEnoughGifts() {
        DoorVotes x = Check.townOf("h2,0;d0,1;k0,4;k0,4;p0,3;");
        knockTimes(x, 0, 0, 1);
        knockTimes(x, 1, 0, 1);
        insult(x, 0, 1);
        insult(x, 1, 1);
        gifts(x, 2, 1, 0b01);
        insult(x, 0, 1);
        gifts(x, 2, 2, 0b01);
        insult(x, 1, 1);
        gifts(x, 2, 3, 0b11);
    }

    private static void theFewestComeLater() {
        // The child, who is the first, would want 4; the founder wants 1.
        DoorVotes x = Check.townOf("h2,0;d0,1;k0,0;f0,4;p0,3;");
        knockTimes(x, 0, 0, 1);
        insult(x, 1, 1);
        gifts(x, 2, 1, 0b010);
        // Those against weigh 2, 4 and 2, and 1 weighs 5 without a vote: by one to 1 and one to 2 there is one more.
        // By one to 0 and two to 2 there would be, too, of whom the bits are less.
        DoorVotes y = Check.townOf("h2,0;d0,1;p0,4;p0,4;p0,4;p0,4;p0,3;u3,4;");
        int[] times = {2, 5, 4, 2};
        int[] insults = {2, 1, 2, 0};
        for (int p = 0; p < 4; p++) {
            knockTimes(y, p, 0, times[p]);
        }
        for (int p = 0; p < 4; p++) {
            insult(y, p, insults[p]);
        }
        Check.due("for", y.at(4, 0, 5), 0);
        Check.due("against", y.at(4, 0, 6), 8);
        gifts(y, 4, 2, 0b00110);
    }

    private static void fortyGifts() {
        Check.sentence(0, "0 to 40, each");
        DoorVotes x = Check.townOf("h2,0;d0,1;f0,2;f0,2;f0,2;p0,3;u0,3;u1,3;u2,3;");
        for (int p = 0; p < 3; p++) {
            insult(x, p, 9);
            Check.due("favour", x.favour(p, 3), -19);
        }
        gifts(x, 3, 40, 0b011);
        // Two founders want 20, one wants 1 not to vote, and one too many: 41.
        DoorVotes y = Check.townOf("h2,0;d0,1;f0,2;f0,2;f0,2;f0,0;p0,3;u0,4;u1,4;u3,4;");
        insult(y, 0, 9);
        insult(y, 1, 9);
        insult(y, 3, 9);
        gifts(y, 4, NONE, NONE);
        y.gift(2, 1);
        gifts(y, 4, 40, 0b0011);
    }

    private static void twentyToOne() {
        Check.sentence(0, "20 to one at most");
        DoorVotes x = Check.townOf("h2,0;d0,1;f0,2;p0,3;u0,1;");
        insult(x, 0, 9);
        gifts(x, 1, 20, 1);
        DoorVotes y = Check.townOf("h2,0;d0,1;f0,1;p0,3;u0,1;");
        insult(y, 0, 9);
        gifts(y, 1, NONE, NONE);
        DoorVotes still = Check.townOf("h2,0;d0,1;f0,1;f0,4;p0,3;u0,2;");
        insult(still, 0, 9);
        gifts(still, 2, 20, 1);
        DoorVotes not = Check.townOf("h2,0;d0,1;f0,0;f0,4;p0,3;u0,2;");
        insult(not, 0, 9);
        gifts(not, 2, NONE, NONE);
        DoorVotes nurse = Check.townOf("h2,0;d0,1;n0,0;p0,3;u0,1;");
        knockTimes(nurse, 0, 0, 1);
        insult(nurse, 0, 7);
        gifts(nurse, 1, 20, 1);
        insult(nurse, 0, 1);
        gifts(nurse, 1, NONE, NONE);
    }

    private static void toTheOthers() {
        Check.sentence(0, "each to one of the others");
        DoorVotes x = Check.townOf("h2,0;d0,1;f0,0;f0,3;");
        gifts(x, 0, 1, 0b10);
        gifts(x, 1, 4, 0b01);
        DoorVotes alone = Check.townOf("h2,0;d0,1;f0,0;");
        gifts(alone, 0, 0, 0);
    }

    private static void beyondNine() {
        Check.sentence(0, "-9 to 9 does not matter) by which it OPENS to it");
        DoorVotes x = Check.townOf("h2,0;d0,1;f0,0;p0,3;u0,1;");
        for (int k = 0; k < 9; k++) {
            x.gift(0, 1);
        }
        gifts(x, 1, 4, 1);
        Check.due("no gift can come now", x.gift(0, 1), DoorVotes.FULL);
    }

    private static void ofSeveralTheLeast() {
        Check.sentence(0, "those who get any (bits), of several the least; NONE.");
        gifts(Check.townOf("h2,0;d0,1;f0,3;f0,3;f0,3;p0,3;"), 3, 1, 0b0001);
        // One each to 0 and 1, two to 2, or one each to 0 and 2: the least are 0 and 1.
        gifts(Check.townOf("h2,0;d0,1;f0,3;f0,3;f0,2;p0,3;"), 3, 2, 0b0011);
        // Two to 1 and one to 2, two to 1 and one to 3, or one to each.
        gifts(Check.townOf("h2,0;d0,1;p0,3;f0,2;f0,2;f0,3;"), 0, 3, 0b0110);
    }

    private static void giftsAreRefused() {
        Check.sentence(21, "GIFTS: how many (what = 0), who (1); NONE.");
        DoorVotes x = Check.townOf("h2,0;d0,1;f0,1;p0,3;u0,1;");
        gifts(x, 1, 12, 1);
        insult(x, 0, 9);
        gifts(x, 1, NONE, NONE);
        Check.sentence(21, "BAD.");
        DoorVotes six = Check.townOf(SIX);
        Check.bounds("gifts(?, 0, 0)", v -> six.gifts(v, 0, 0), 0, 5);
        Check.bounds("gifts(0, ?, 0)", v -> six.gifts(0, v, 0), 0, 5);
        Check.bounds("gifts(0, 0, ?)", v -> six.gifts(0, 0, v), 0, 1);
        Check.due("a door that a lesser town has not", x.gifts(1, 1, 0), BAD);
    }

    // ---- PARADE

    private static void parade(DoorVotes x, int person, int many, int who) {
        Check.due("parade(" + person + ", 0, 0)", x.parade(person, 0, 0), many);
        Check.due("parade(" + person + ", 0, 1)", x.parade(person, 0, 1), who);
    }

    private static void parades() {
        onceEach();
        today();
        whateverTheirRoom();
        onlyOthers();
        ofSeveralParadesTheLeast();
        paradesAreRefused();
    }

    private static void onceEach() {
        Check.sentence(0, "PARADE: the fewest others who must go through a DOOR once each");
        DoorVotes x = Check.townOf("h2,0;d0,1;p0,2;p0,4;p0,4;p0,4;p0,4;p0,3;");
        parade(x, 5, 0, 0);
        int[] many = {2, 3, 4, NONE};
        int[] who = {0b000110, 0b001110, 0b011110, NONE};
        for (int k = 0; k < 4; k++) {
            knockTimes(x, 0, 0, 1);
            parade(x, 5, many[k], who[k]);
        }
        DoorVotes slams = Check.townOf("h2,0;d0,1;s0,0;p0,3;");
        int[] ones = {0, NONE, 1, 0, NONE, 1, 0};
        for (int k = 0; k < ones.length; k++) {
            parade(slams, 1, ones[k], ones[k]);
            knockTimes(slams, 0, 0, 1);
        }
        DoorVotes most = Check.townOf("h2,0;d0,1;p0,4;p0,4;p0,3;");
        knockTimes(most, 0, 0, 98);
        knockTimes(most, 1, 0, 98);
        insult(most, 1, 2);
        parade(most, 2, 1, 1);
        Check.due("one who is for it", most.knock(1, 0), 1);
        parade(most, 2, NONE, NONE);
    }

    private static void today() {
        Check.sentence(0, "once each today");
        DoorVotes x = Check.townOf("h2,1;d0,1;p0,4;k0,3;p0,3;");
        knockTimes(x, 0, 0, 2);
        knockTimes(x, 1, 0, 1);
        insult(x, 1, 1);
        x.days(2);
        Check.due("for, faded", x.at(2, 0, 5), 1);
        Check.due("against", x.at(2, 0, 6), 1);
        parade(x, 2, 1, 0b001);
        DoorVotes y = Check.townOf("h2,1;d0,1;p0,4;k0,2;p0,3;i0,1;");
        knockTimes(y, 0, 0, 1);
        Check.due("the child, its kin", y.knock(1, 0), 1);
        y.days(2);
        Check.due("for, faded", y.at(2, 0, 5), 0);
        parade(y, 2, 1, 0b001);
        Check.due("the day stays", y.count(4), 2);
    }

    private static void whateverTheirRoom() {
        Check.sentence(0, "(whatever their ROOM), so that it OPENS to one");
        DoorVotes x = Check.townOf("h4,0;d0,1;p0,2;p2,4;p3,4;p0,3;");
        knockTimes(x, 0, 0, 1);
        parade(x, 3, 2, 0b0110);
        Check.due("their rooms stay", x.person(1, 0), 2);
        Check.due("one far away, too", x.parade(1, 0, 0), NONE);
        DoorVotes y = Check.townOf("h4,0;d0,1;p0,2;n2,4;p3,3;");
        knockTimes(y, 0, 0, 1);
        parade(y, 2, 1, 0b010);
    }

    private static void onlyOthers() {
        Check.sentence(0, "the fewest others who must go through");
        DoorVotes x = Check.townOf("h2,0;d0,1;p0,2;p0,6;");
        knockTimes(x, 0, 0, 1);
        parade(x, 1, NONE, NONE);
        parade(x, 0, 0, 0);
        DoorVotes next = Check.townOf("h2,0;d0,1;p0,3;n0,4;p0,2;");
        knockTimes(next, 2, 0, 1);
        parade(next, 0, 1, 0b010);
        DoorVotes alone = Check.townOf("h2,0;d0,1;p0,0;");
        knockTimes(alone, 0, 0, 1);
        parade(alone, 0, 0, 0);
    }

    private static void ofSeveralParadesTheLeast() {
        Check.sentence(0, "how many; which (bits), of several the least; NONE.");
        DoorVotes x = Check.townOf("h2,0;d0,1;p0,3;p0,2;p0,4;n0,4;n0,4;");
        knockTimes(x, 1, 0, 1);
        parade(x, 0, 1, 0b01000);
        knockTimes(x, 1, 0, 1);
        parade(x, 0, 2, 0b01100);
        knockTimes(x, 1, 0, 1);
        parade(x, 0, 2, 0b11000);
        knockTimes(x, 1, 0, 1);
        parade(x, 0, 3, 0b11100);
        knockTimes(x, 1, 0, 1);
        parade(x, 0, NONE, NONE);
    }

    private static void paradesAreRefused() {
        Check.sentence(22, "PARADE: how many (what = 0), who (1); NONE.");
        DoorVotes x = Check.townOf("h2,0;d0,1;f0,3;n0,4;p0,3;");
        parade(x, 2, 1, 0b10);
        parade(x, 1, NONE, NONE);
        Check.sentence(22, "BAD.");
        DoorVotes six = Check.townOf(SIX);
        Check.bounds("parade(?, 0, 0)", v -> six.parade(v, 0, 0), 0, 5);
        Check.bounds("parade(0, ?, 0)", v -> six.parade(0, v, 0), 0, 5);
        Check.bounds("parade(0, 0, ?)", v -> six.parade(0, 0, v), 0, 1);
        Check.due("a door that a lesser town has not", x.parade(1, 1, 0), BAD);
    }

    // ---- NEW DOOR

    private static void newDoor(DoorVotes x, int person, int room, int pair, int many) {
        Check.due("newDoor(" + person + ", " + room + ", 0)", x.newDoor(person, room, 0), pair);
        Check.due("newDoor(" + person + ", " + room + ", 1)", x.newDoor(person, room, 1), many);
    }

    private static void newDoors() {
        Check.sentence(0, "the two ROOMS (10 times the lesser, and the greater) between which a new DOOR gives it "
                + "the shortest WAY there");
        DoorVotes x = Check.townOf("h6,0;d0,1;p0,3;p5,3;p3,3;");
        newDoor(x, 0, 5, 5, 1);
        newDoor(x, 1, 0, 5, 1);
        newDoor(x, 1, 4, 45, 1);
        newDoor(x, 2, 4, 34, 1);
        newDoor(x, 2, 2, 23, 1);
        newDoor(x, 2, 3, 1, 0);
        Check.due("no door comes", x.count(2), 1);
        DoorVotes shut = Check.townOf("h3,0;d2,1;f2,0;p1,3;");
        newDoor(shut, 1, 2, 12, 1);
        Check.sentence(0, "of several the first; how many DOORS that is");
        DoorVotes square = Check.townOf(SQUARE);
        newDoor(square, 0, 0, 1, 0);
        newDoor(square, 0, 2, 1, 1);
        newDoor(square, 0, 3, 3, 1);
        newDoor(Check.townOf("h2,0;d0,1;f0,0;p1,3;"), 1, 1, 1, 0);
        Check.sentence(23, "NEW DOOR: the ROOMS (what = 0), how many DOORS (1); NONE.");
        newDoor(Check.townOf("h2,0;d0,1;f0,0;p1,3;"), 1, 0, 1, 1);
        // It is only thought of: that there are six already is no matter.
        DoorVotes six = Check.townOf(SIX);
        newDoor(six, 0, 3, 3, 1);
        newDoor(six, 5, 2, 25, 1);
        Check.sentence(23, "BAD.");
        Check.bounds("newDoor(?, 0, 0)", v -> six.newDoor(v, 0, 0), 0, 5);
        Check.bounds("newDoor(0, ?, 0)", v -> six.newDoor(0, v, 0), 0, 5);
        Check.bounds("newDoor(0, 0, ?)", v -> six.newDoor(0, 0, v), 0, 1);
        Check.due("a room that a lesser town has not", shut.newDoor(0, 3, 0), BAD);
    }

    // ---- BENTS and WHO

    private static void fits(DoorVotes x, int i, int n, int many, int least) {
        Check.due("bents(0, 1, 0, " + i + ", " + n + ", 0)", x.bents(0, 1, 0, i, n, 0), many);
        Check.due("bents(0, 1, 0, " + i + ", " + n + ", 1)", x.bents(0, 1, 0, i, n, 1), least);
    }

    private static void bents() {
        bentsBySeenDoors();
        bentsOfAPartOfARow();
        bentsAreRefused();
    }

    private static void bentsBySeenDoors() {
        Check.sentence(0, "whether each OPENS to one (1), or not (0), or it is not known (-1): BENTS (0 to 6) of another "
                + "one by which it is so: how many; the least; NONE.");
        DoorVotes x = Check.townOf("h2,0;d0,1;f0,5;p0,3;");
        x.row(0, 2, 5);
        int[] items = {1, 0, -1, 2, -2};
        for (int i = 0; i < items.length; i++) {
            x.set(0, i, items[i]);
        }
        fits(x, 0, 1, 3, 4);
        fits(x, 1, 1, 4, 0);
        fits(x, 2, 1, 7, 0);
        fits(x, 3, 1, 0, NONE);
        fits(x, 4, 1, 0, NONE);
        for (int k = 0; k < 3; k++) {
            x.gift(0, 1);
        }
        fits(x, 0, 1, 6, 1);
        fits(x, 1, 1, 1, 0);
        x.gift(0, 1);
        fits(x, 0, 1, 7, 0);
        fits(x, 1, 1, 0, NONE);
        insult(x, 0, 6);
        fits(x, 0, 1, 1, 6);
        fits(x, 1, 1, 6, 0);
        insult(x, 0, 1);
        fits(x, 0, 1, 0, NONE);
        fits(x, 1, 1, 7, 0);
        Check.due("its bent is as it was", x.person(0, 1), 5);
    }

    private static void bentsOfAPartOfARow() {
        Check.sentence(24, "BENTS of another one, n ITEMS (1 to 6, no more than DOORS) of a ROW from i on: "
                + "how many (what = 0), the least (1; NONE).");
        DoorVotes x = Check.townOf("h2,0;d0,1;d0,1;d0,1;d0,1;d0,1;d0,1;p0,5;p0,3;");
        knockTimes(x, 0, 5, 1);
        x.row(0, 0, 8);
        for (int i = 0; i < 8; i++) {
            x.set(0, i, 1);
        }
        fits(x, 0, 5, 7, 0);
        fits(x, 0, 6, 3, 4);
        fits(x, 2, 6, 3, 4);
        Check.due("beyond the row", x.bents(0, 1, 0, 3, 6, 0), PLACE);
        Check.due("seven", x.bents(0, 1, 0, 0, 7, 0), BAD);
        Check.due("none", x.bents(0, 1, 0, 0, 0, 0), BAD);
        x.set(0, 7, 0);
        fits(x, 2, 6, 4, 0);
        fits(x, 7, 1, 0, NONE);
        x.set(0, 2, 0);
        fits(x, 2, 6, 0, NONE);
        DoorVotes two = Check.townOf(TWO);
        two.row(0, 0, 6);
        Check.due("as many as doors", two.bents(0, 1, 0, 0, 2, 0), 0);
        Check.due("more than doors", two.bents(0, 1, 0, 0, 3, 0), BAD);
        two.build(0, 1);
        Check.due("as many as doors then", two.bents(0, 1, 0, 0, 3, 0), 0);
    }

    private static void bentsAreRefused() {
        Check.sentence(24, "BAD: PEOPLE, alike, ROW, n, what; NULL; PLACE.");
        DoorVotes x = Check.townOf(TWO + "k0,3;");
        x.row(0, 0, 3);
        Check.bounds("bents(?, 1, 0, 0, 1, 0), 1 left out", v -> x.bents(v == 1 ? 0 : v, 1, 0, 0, 1, 0), 0, 2);
        Check.bounds("bents(1, ?, 0, 0, 1, 0), 1 left out", v -> x.bents(1, v == 1 ? 0 : v, 0, 0, 1, 0), 0, 2);
        Check.bounds("bents(0, 1, ?, 0, 1, 0)", v -> x.bents(0, 1, v, 0, 1, 0), 0, 7);
        Check.bounds("bents(0, 1, 0, 0, ?, 0)", v -> x.bents(0, 1, 0, 0, v, 0), 1, 2);
        Check.bounds("bents(0, 1, 0, 0, 1, ?)", v -> x.bents(0, 1, 0, 0, 1, v), 0, 1);
        for (int p = 0; p < 3; p++) {
            Check.due("alike", x.bents(p, p, 0, 0, 1, 0), BAD);
        }
        Check.due("what ahead of a missing row", x.bents(0, 1, 5, 0, 1, 2), BAD);
        Check.due("n ahead of a missing row", x.bents(0, 1, 5, 0, 3, 0), BAD);
        Check.due("a missing row", x.bents(0, 1, 5, 0, 1, 0), NULL);
        Check.due("a missing row ahead of a place", x.bents(0, 1, 5, -1, 1, 0), NULL);
        for (int i : new int[] {-1, 3, MAX, MIN}) {
            Check.due("from " + i, x.bents(0, 1, 0, i, 1, 0), PLACE);
        }
        Check.due("the last one", x.bents(0, 1, 0, 2, 1, 0), 0);
        Check.due("the last two", x.bents(0, 1, 0, 1, 2, 1), NONE);
        Check.due("one beyond the end", x.bents(0, 1, 0, 2, 2, 1), PLACE);
    }

    private static void who() {
        Check.sentence(0, "WHO: KINDS (bits 1 to 5) of that other one by which it is so, BENT as it is.");
        DoorVotes x = Check.townOf("h2,0;d0,1;d0,1;p0,2;p0,3;");
        x.row(0, 1, 4);
        int[] items = {-1, 0, 1, 2};
        for (int i = 0; i < items.length; i++) {
            x.set(0, i, items[i]);
        }
        Check.due("all", x.who(0, 1, 0, 0, 1), 0b111110);
        Check.due("a founder alone is against it", x.who(0, 1, 0, 1, 1), 0b000100);
        Check.due("all but a founder", x.who(0, 1, 0, 2, 1), 0b111010);
        Check.due("nobody", x.who(0, 1, 0, 3, 1), 0);
        knockTimes(x, 0, 1, 3);
        x.set(0, 0, 1);
        x.set(0, 1, 1);
        Check.due("a slammer who went three times", x.who(0, 1, 0, 0, 2), 0b001000);
        x.set(0, 0, 0);
        Check.due("a founder who slams", x.who(0, 1, 0, 0, 2), 0);
        Check.due("its kind is as it was", x.kind(0), 1);
        // For 1 there is a 2 at DOOR 0; 0 is against it with 3, 12, 0, 1, or (a nurse) not at all.
        DoorVotes y = Check.townOf("h2,0;d0,1;p0,4;p0,3;n0,4;");
        knockTimes(y, 0, 0, 3);
        knockTimes(y, 2, 0, 1);
        insult(y, 0, 2);
        y.row(0, 0, 2);
        y.set(0, 0, 1);
        Check.due("kinds that weigh less than 2", y.who(0, 1, 0, 0, 1), 0b111000);
        Check.due("kinds that do not", y.who(0, 1, 0, 1, 1), 0b000110);
        whoIsRefused();
    }

    private static void whoIsRefused() {
        Check.sentence(25, "WHO, likewise.");
        DoorVotes x = Check.townOf(TWO + "k0,3;");
        x.row(0, 0, 3);
        Check.due("from the last on", x.who(0, 1, 0, 2, 1), 0);
        Check.due("n as many as doors", x.who(0, 1, 0, 1, 2), 0);
        Check.sentence(25, "BAD: PEOPLE, alike, ROW, n; NULL; PLACE.");
        Check.bounds("who(?, 1, 0, 0, 1), 1 left out", v -> x.who(v == 1 ? 0 : v, 1, 0, 0, 1), 0, 2);
        Check.bounds("who(1, ?, 0, 0, 1), 1 left out", v -> x.who(1, v == 1 ? 0 : v, 0, 0, 1), 0, 2);
        Check.bounds("who(0, 1, ?, 0, 1)", v -> x.who(0, 1, v, 0, 1), 0, 7);
        Check.bounds("who(0, 1, 0, 0, ?)", v -> x.who(0, 1, 0, 0, v), 1, 2);
        for (int p = 0; p < 3; p++) {
            Check.due("alike", x.who(p, p, 0, 0, 1), BAD);
        }
        Check.due("n ahead of a missing row", x.who(0, 1, 5, 0, 3), BAD);
        Check.due("a missing row", x.who(0, 1, 5, 0, 1), NULL);
        Check.due("a missing row ahead of a place", x.who(0, 1, 5, -1, 1), NULL);
        for (int i : new int[] {-1, 3, MAX, MIN}) {
            Check.due("from " + i, x.who(0, 1, 0, i, 1), PLACE);
        }
        Check.due("one beyond the end", x.who(0, 1, 0, 2, 2), PLACE);
    }

    // ---- AWAKE

    private static void likely(DoorVotes x, int person, int p, long above, long below) {
        Check.due("awake(" + person + ", 0, " + p + ", 0)", x.awake(person, 0, p, 0), above);
        Check.due("awake(" + person + ", 0, " + p + ", 1)", x.awake(person, 0, p, 1), below);
    }

    private static void awake() {
        Check.sentence(0, "AWAKE by p of 10 (0 to 10): all others (not the one itself) are awake in p of 10 cases, apart");
        DoorVotes x = Check.townOf("h2,0;d0,1;f0,2;p0,3;");
        long[][] shares = {{1, 1}, {9, 10}, {4, 5}, {7, 10}, {3, 5}, {1, 2}, {2, 5}, {3, 10}, {1, 5}, {1, 10}, {0, 1}};
        for (int p = 0; p <= 10; p++) {
            likely(x, 1, p, shares[p][0], shares[p][1]);
            likely(x, 0, p, 1, 1);
        }
        DoorVotes alone = Check.townOf("h2,0;d0,1;f0,0;");
        likely(alone, 0, 10, 1, 1);
        DoorVotes apart = Check.townOf("h2,0;d0,1;f0,2;f0,2;p0,3;");
        likely(apart, 2, 3, 49, 100);
        Check.sentence(0, "who sleeps does not vote, and has no WEIGHT");
        likely(Check.townOf("h2,0;d0,1;f0,3;p0,3;"), 1, 3, 7, 10);
        likely(Check.townOf("h2,0;d0,1;f0,4;p0,3;"), 1, 3, 1, 1);
        likely(Check.townOf("h2,0;d0,1;f0,4;f0,2;p0,3;"), 2, 3, 7, 10);
        likely(Check.townOf("h2,0;d0,1;f0,4;f0,4;f0,2;p0,3;"), 3, 3, 727, 1000);
        fractions();
    }

    private static void fractions() {
        Check.sentence(0, "but fractions, told as two numbers in lowest terms (0 is 0 by 1).");
        DoorVotes x = Check.townOf("h2,0;d0,1;f0,3;f0,3;f0,3;f0,3;f0,3;p0,3;");
        likely(x, 5, 1, 59049, 100000);
        likely(x, 5, 2, 1024, 3125);
        likely(x, 5, 5, 1, 32);
        likely(x, 5, 9, 1, 100000);
        likely(x, 5, 0, 1, 1);
        likely(x, 5, 10, 0, 1);
        Check.sentence(26, "AWAKE: above (what = 0), below (1).");
        likely(x, 4, 4, 81, 625);
        // Any of five is for it, or all sleep: whole, and by 1.
        likely(Check.townOf("h2,0;d0,1;f0,4;f0,4;f0,4;f0,4;f0,4;p0,3;"), 5, 7, 1, 1);
        Check.sentence(26, "BAD.");
        DoorVotes six = Check.townOf(SIX);
        Check.bounds("awake(?, 0, 1, 0)", v -> (int) six.awake(v, 0, 1, 0), 0, 5);
        Check.bounds("awake(0, ?, 1, 0)", v -> (int) six.awake(0, v, 1, 0), 0, 5);
        Check.bounds("awake(0, 0, ?, 0)", v -> (int) six.awake(0, 0, v, 0), 0, 10);
        Check.bounds("awake(0, 0, 1, ?)", v -> (int) six.awake(0, 0, 1, v), 0, 1);
        Check.due("a door that a lesser town has not", x.awake(0, 1, 1, 0), BAD);
    }

    // ---- KNOCKS by draws

    private static void drawn(DoorVotes x, int n, int seed, int let, int rooms) {
        Check.due("drawn(" + n + ", " + seed + ", 0)", x.drawn(n, seed, 0), let);
        Check.due("drawn(" + n + ", " + seed + ", 1)", x.drawn(n, seed, 1), rooms);
    }

    private static void draws() {
        Check.sentence(0, "KNOCKS of n (0 to 60) by a SEED (X at first)");
        DoorVotes alone = Check.townOf("h6,0;d4,5;p4,3;");
        drawn(alone, 0, 1, 0, 4);
        drawn(alone, 1, 1, 1, 5);
        drawn(alone, 59, 1, 59, 5);
        drawn(alone, 60, 999999, 60, 4);
        Check.sentence(0, "the one who is the rest of X by how many there are KNOCKS at the DOOR that is the rest of X "
                + "by DOORS");
        // By 6 the X of seed 1 leave 1, 1, 5, 2, 4, 2, 0, 2, 5, 1: each of six goes by a DOOR that is its own.
        DoorVotes six = Check.townOf(SIX);
        int[] rooms = {15, 16, 15, 10, 11, 12, 11, 12, 13, 18, 19};
        for (int n = 0; n < rooms.length; n++) {
            drawn(six, n, 1, n, rooms[n]);
        }
        Check.sentence(0, "if that is of its ROOM");
        // Only an even X is a knock at the DOOR that is there.
        DoorVotes x = Check.townOf("h4,0;d0,1;d2,3;p0,3;");
        int[] even = {0, 0, 0, 0, 1, 2};
        for (int n = 0; n < even.length; n++) {
            drawn(x, n, 1, even[n], even[n] % 2);
        }
        drawn(x, 60, 1, 27, 1);
        drawn(x, 60, 2, 29, 1);
        drawn(x, 1, 999999, 1, 1);
        drawn(x, 60, 999999, 34, 0);
        aDayIsOver();
        drawnIsRefused();
    }

    private static void aDayIsOver() {
        Check.sentence(0, "if X by 4 leaves 0, a DAY is over behind it");
        // The first two X of seed 999999 leave 0 by 4: 0 knocks on day 1, while 1 is against it, and on day 2.
        DoorVotes x = Check.townOf("h2,1;d0,1;p0,3;p0,2;");
        knockTimes(x, 1, 0, 1);
        x.days(1);
        drawn(x, 1, 999999, 0, 1);
        drawn(x, 2, 999999, 1, 2);
        Check.due("the day is as it was", x.count(4), 1);
        // The first X of seed 2 leaves 2 by 4, and no day is over: 0 knocks twice on day 1.
        drawn(x, 2, 2, 0, 1);
        DoorVotes late = Check.townOf("h2,1;d0,1;p0,3;p0,2;");
        for (int k = 0; k < 41; k++) {
            late.days(24);
        }
        late.days(14);
        knockTimes(late, 1, 0, 1);
        Check.due("the last day there is", late.days(1), 999);
        drawn(late, 1, 999999, 0, 1);
        drawn(late, 2, 999999, 1, 2);
    }

    private static void drawnIsRefused() {
        Check.sentence(27, "KNOCKS by a SEED (1 to 999999): how many (what = 0), ROOMS (1).");
        DoorVotes x = Check.townOf("h2,0;d0,1;p0,3;");
        drawn(x, 3, 1, 3, 1);
        drawn(x, 3, 999999, 3, 1);
        Check.sentence(27, "BAD; STATE: no TOWN (ahead of BAD).");
        Check.bounds("drawn(?, 1, 0)", v -> x.drawn(v, 1, 0), 0, 60);
        Check.bounds("drawn(1, ?, 0)", v -> x.drawn(1, v, 0), 1, 999999);
        Check.bounds("drawn(1, 1, ?)", v -> x.drawn(1, 1, v), 0, 1);
        DoorVotes none = new DoorVotes();
        Check.due("drawn(1, 1, 0) without a town", none.drawn(1, 1, 0), STATE);
        Check.due("drawn(61, 1, 0) without a town", none.drawn(61, 1, 0), STATE);
        Check.due("drawn(1, 0, 0) without a town", none.drawn(1, 0, 0), STATE);
        Check.due("drawn(1, 1, 2) without a town", none.drawn(1, 1, 2), STATE);
    }

    // ---- IMAGES

    private static void images() {
        Check.sentence(28, "An IMAGE (0, 1) is kept of the TOWN: 1.");
        DoorVotes x = Check.townOf("h3,1;d0,1;p0,4;k0,4;u0,1;");
        knockTimes(x, 0, 0, 1);
        Check.due("image(0)", x.image(0), 1);
        Check.due("acts stay", x.count(7), 1);
        x.days(2);
        x.gift(1, -1);
        x.build(1, 2);
        Check.due("image(1)", x.image(1), 1);
        x.undo();
        Check.sentence(29, "The TOWN is as an IMAGE kept it (no ACT can be undone then): 1.");
        Check.due("restore(1)", x.restore(1), 1);
        Check.due("acts", x.count(7), 0);
        Check.due("undo()", x.undo(), STATE);
        standing(x, 2, 2, -1);
        Check.due("restore(0)", x.restore(0), 1);
        standing(x, 1, 0, 0);
        Check.due("an act then", x.days(3), 3);
        Check.due("undo()", x.undo(), 2);
        Check.due("one over an older one", x.image(1), 1);
        Check.due("another town", Check.tell(x, "h2,0;d0,1;p0,3;"), 1);
        Check.due("restore(1) behind another town", x.restore(1), 1);
        standing(x, 1, 2, 0);
        Check.due("its tie", x.person(1, 5), 1);
        Check.due("restore(0) again", x.restore(0), 1);
        standing(x, 1, 0, 0);
        Check.due("last", x.at(0, 0, 1), 0);
        imagesAreRefused();
    }

    private static void standing(DoorVotes x, int doors, int day, int gifts) {
        Check.due("rooms", x.count(1), 3);
        Check.due("doors", x.count(2), doors);
        Check.due("day", x.count(4), day);
        Check.due("gifts", x.person(1, 2), gifts);
        Check.due("room", x.person(0, 0), 1);
        Check.due("times", x.count(5), 1);
    }

    private static void imagesAreRefused() {
        Check.sentence(28, "BAD; STATE: no TOWN.");
        DoorVotes none = new DoorVotes();
        Check.bounds("image(?) without a town", v -> none.image(v), 0, 1);
        Check.due("image(0) without a town", none.image(0), STATE);
        Check.due("image(1) without a town", none.image(1), STATE);
        Check.sentence(29, "BAD; STATE: none was kept.");
        Check.bounds("restore(?)", v -> none.restore(v), 0, 1);
        Check.due("restore(0) without a town", none.restore(0), STATE);
        Check.tell(none, "h2,0;d0,1;p0,3;");
        Check.due("restore(0)", none.restore(0), STATE);
        Check.bounds("image(?)", v -> v == 0 ? 1 : none.image(v), 0, 1);
        Check.due("restore(0), when 1 was kept", none.restore(0), STATE);
        Check.due("restore(1)", none.restore(1), 1);
        Check.due("restore(2)", none.restore(2), BAD);
        Check.due("the town stands", none.count(3), 1);
    }
}
