/** Promises 6 to 8 and what the terms say of TEXTS: each sentence that names a boundary by itself. */
final class TextEdges {
    private static final int NONE = DoorVotes.NONE, BAD = DoorVotes.BAD, STATE = DoorVotes.STATE, FULL = DoorVotes.FULL;
    private static final int FIRST_PLACE = -1000100;
    private static final String LAW = "h2,0;";
    private static final String DOOR = LAW + "d0,1;";
    private static final String TWO = DOOR + "p0,3;p1,3;";
    private static final String SIX_DOORS = "h6,9;d0,1;d1,2;d2,3;d3,4;d4,5;d5,0;";
    private static final String SIX = SIX_DOORS + "p0,0;f1,1;s2,2;k3,3;n4,4;p5,6;";
    private static final String EIGHT = SIX + "i0,1;u0,2;i0,3;u0,4;i0,5;u1,2;i1,3;u1,4;";

    private TextEdges() {
    }

    static void run() {
        theTapeHas120Bytes();
        aByteIs0To255();
        tokensAreLettersNumbersAndSigns();
        lettersStandByThemselves();
        numbersHaveTwoFigures();
        aTownHasItsOrder();
        theLawHasItsBounds();
        doorsHaveTheirBounds();
        peopleHaveTheirBounds();
        tiesHaveTheirBounds();
        aTownStandsInPlaceOfTheOneBefore();
        theFirstTokenIsTold();
        ofOneTokenTheLeast();
        whatIsNoToken();
        theEndIsHowManyBytesThereAre();
        numbersThatAreNotAsTold();
        oneMoreThanThereIsRoomFor();
        theTapeIsEmptyThen();
        aFaultLeavesAll();
        theLatestFault();
    }

    private static void read(String text, int people) {
        DoorVotes x = new DoorVotes();
        Check.due("town() of " + text, Check.tell(x, text), people);
        Check.due("people of " + text, x.count(3), people);
        Check.due("fault() of " + text, x.fault(), 0);
    }

    private static void faulty(String text, int place, int number) {
        DoorVotes x = new DoorVotes();
        Check.due("town() of '" + text + "'", Check.tell(x, text), FIRST_PLACE - place);
        Check.due("fault() of '" + text + "'", x.fault(), number);
        Check.due("people of '" + text + "'", x.count(3), 0);
    }

    /** Numbers with a 0 ahead are longer: a text of so many bytes as are wanted. */
    private static String stretched(String text, int bytes) {
        StringBuilder s = new StringBuilder(text);
        for (int k = s.length() - 2; k > 0 && s.length() < bytes; k--) {
            boolean figure = s.charAt(k) >= '0' && s.charAt(k) <= '9';
            if (figure) {
                s.insert(k, '0');
            }
        }
        return s.toString();
    }

    private static void theTapeHas120Bytes() {
        Check.sentence(0, "THE TAPE has at most 120 bytes, that come one by one");
        String full = stretched(EIGHT, 120);
        Check.due("bytes of the longest text", full.length(), 120);
        DoorVotes x = new DoorVotes();
        for (int k = 0; k < 120; k++) {
            Check.due("byte " + k, x.feed(full.charAt(k)), k + 1);
        }
        Check.due("one byte more", x.feed(';'), FULL);
        Check.due("bytes", x.count(8), 120);
        Check.due("town() of a full tape", x.town(), 6);
        Check.due("ties of a full tape", x.count(6), 8);
        Check.due("its last tie", x.person(4, 5), 0b11);
    }

    private static void aByteIs0To255() {
        Check.sentence(6, "A byte (0 to 255) comes behind the tape: how many it has.");
        DoorVotes x = new DoorVotes();
        Check.due("feed(0)", x.feed(0), 1);
        Check.due("feed(255)", x.feed(255), 2);
        Check.sentence(6, "BAD; FULL.");
        Check.bounds("feed(?)", v -> x.feed(v), 0, 255);
        Check.due("what is BAD does not come", x.count(8), 4);
        for (int k = 5; k <= 120; k++) {
            x.feed('d');
        }
        Check.due("feed('d') of a full tape", x.feed('d'), FULL);
        Check.due("feed(-1) of a full tape", x.feed(-1), BAD);
        Check.due("feed(256) of a full tape", x.feed(256), BAD);
        Check.due("bytes", x.count(8), 120);
    }

    /** Every byte at every sort of place of a short text: either it fits, or the FAULT is there. */
    private static void tokensAreLettersNumbersAndSigns() {
        Check.sentence(0, "SIGNS , and ; nothing else.");
        for (int b = 0; b < 256; b++) {
            boolean figure = b >= '0' && b <= '9';
            char c = (char) b;
            byteAt(b == 'h', c + "2,0;d0,1;p0,0;", 0, 1);
            byteAt(b >= '2' && b <= '6', "h" + c + ",0;d0,1;p0,0;", 1, figure ? 2 : 1);
            byteAt(b == 'd', "h2,0;" + c + "0,1;p0,0;", 5, 1);
            byteAt("dpfskn".indexOf(b) >= 0, "h2,0;d0,1;" + c + "0,1;p0,0;", 10, 1);
            // A figure behind a figure is part of its NUMBER: three of them, too great, or the end behind it.
            byteAt(b == ',', "h2,0;d0,1;p0" + c + "0;", figure ? 11 : 12, 1);
            byteAt(b == ';', "h2,0;d0,1;p0,0" + c, !figure ? 14 : b > '6' ? 13 : 15, figure && b > '6' ? 2 : 1);
            byteAt("pfskniu".indexOf(b) >= 0, TWO + c + "0,1;", 20, 1);
        }
    }

    private static void byteAt(boolean fits, String text, int place, int fault) {
        if (fits) {
            DoorVotes x = new DoorVotes();
            Check.dueTrue("a byte that fits in " + text, Check.tell(x, text) > 0);
        } else {
            faulty(text, place, fault);
        }
    }

    private static void lettersStandByThemselves() {
        Check.sentence(0, "letters a to z (each by itself)");
        faulty("hh2,0;", 1, 1);
        faulty(LAW + "dd0,1;", 6, 1);
        faulty(DOOR + "pf0,0;", 11, 1);
        faulty(TWO + "iu0,1;", 21, 1);
        faulty(TWO + "z", 20, 1);
        faulty(TWO + "a", 20, 1);
        faulty("H2,0;", 0, 1);
    }

    private static void numbersHaveTwoFigures() {
        Check.sentence(0, "NUMBERS (figures, 2 at most)");
        read("h02,09;d00,01;p01,06;p00,00;u01,00;", 2);
        faulty("h002,0;", 1, 1);
        faulty("h2,009;", 3, 1);
        faulty(LAW + "d000,1;", 6, 1);
        faulty(LAW + "d0,001;", 8, 1);
        faulty(DOOR + "p000,1;", 11, 1);
        faulty(DOOR + "p0,001;", 13, 1);
        faulty(TWO + "i000,1;", 21, 1);
        faulty(TWO + "i0,001;", 23, 1);
        faulty("h20,0;", 1, 2);
        faulty("h 2,0;", 1, 1);
        faulty("h2 2,0;", 2, 1);
    }

    private static void aTownHasItsOrder() {
        Check.sentence(0, "town: law door { door } person { person } { tie }.");
        read(DOOR + "p0,0;", 1);
        read(DOOR + "d0,1;p0,0;k0,0;i0,1;", 2);
        faulty("d0,1;p0,0;", 0, 1);
        faulty(LAW + "p0,0;", 5, 1);
        faulty(LAW + "h2,0;", 5, 1);
        faulty(DOOR + "i0,1;", 10, 1);
        faulty(DOOR + "h2,0;", 10, 1);
        faulty(TWO + "d0,1;", 20, 1);
        faulty(TWO + "i0,1;p0,0;", 25, 1);
        faulty(TWO + "i0,1;d0,1;", 25, 1);
        faulty(TWO + "i0,1;h2,0;", 25, 1);
        faulty(TWO + ";", 20, 1);
        faulty(TWO + "0", 20, 1);
    }

    private static void theLawHasItsBounds() {
        Check.sentence(0, "law: h ROOMS , FADES ; (2 to 6; 0 to 9).");
        for (int rooms = 0; rooms < 100; rooms++) {
            String text = "h" + rooms + ",0;d0,1;p0,0;";
            if (rooms >= 2 && rooms <= 6) {
                DoorVotes x = Check.townOf(text);
                Check.due("rooms of " + text, x.count(1), rooms);
            } else {
                faulty(text, 1, 2);
            }
        }
        for (int fades = 0; fades < 100; fades++) {
            String text = "h2," + fades + ";d0,1;p0,0;";
            if (fades <= 9) {
                read(text, 1);
            } else {
                faulty(text, 3, 2);
            }
        }
    }

    private static void doorsHaveTheirBounds() {
        Check.sentence(0, "door: d A , B ; (ROOMS, unlike; DOORS 0 .. 5, 6 at most; two may be between the same).");
        for (int rooms = 2; rooms <= 6; rooms++) {
            String law = "h" + rooms + ",0;";
            int last = rooms - 1;
            read(law + "d0," + last + ";p0,0;", 1);
            read(law + "d" + last + ",0;p0,0;", 1);
            faulty(law + "d0," + rooms + ";p0,0;", 8, 2);
            faulty(law + "d" + rooms + ",0;p0,0;", 6, 2);
            faulty(law + "d" + last + "," + last + ";p0,0;", 8, 2);
            faulty(law + "d0,0;p0,0;", 8, 2);
        }
        read(LAW + "d0,1;d0,1;d0,1;d0,1;d1,0;d1,0;p0,0;", 1);
        faulty(LAW + "d0,1;d0,1;d0,1;d0,1;d1,0;d1,0;d0,1;p0,0;", 35, 3);
        DoorVotes x = Check.townOf(LAW + "d0,1;d1,0;d0,1;p0,0;");
        Check.due("doors between the same", x.count(2), 3);
        Check.due("a of door 1", x.door(1, 0), 1);
        Check.due("b of door 1", x.door(1, 1), 0);
    }

    private static void peopleHaveTheirBounds() {
        Check.sentence(0, "a ROOM; 0 to 6; PEOPLE 0 .. 5, 6 at most).");
        for (int room = 0; room < 100; room++) {
            String text = "h6,0;d0,1;k" + room + ",0;";
            if (room < 6) {
                read(text, 1);
            } else {
                faulty(text, 11, 2);
            }
        }
        faulty(DOOR + "k2,0;", 11, 2);
        for (int bent = 0; bent < 100; bent++) {
            String text = DOOR + "n1," + bent + ";";
            if (bent <= 6) {
                read(text, 1);
            } else {
                faulty(text, 13, 2);
            }
        }
        String six = DOOR + "p0,0;f0,0;s0,0;k0,0;n0,0;p0,0;";
        read(six, 6);
        faulty(six + "p0,0;", 40, 3);
    }

    private static void tiesHaveTheirBounds() {
        Check.sentence(0, "(a feud; PEOPLE, unlike, no two ties of the same; 8 at most).");
        read(TWO + "i0,1;", 2);
        read(TWO + "u1,0;", 2);
        faulty(TWO + "i0,2;", 23, 2);
        faulty(TWO + "i2,0;", 21, 2);
        faulty(TWO + "i0,0;", 23, 2);
        faulty(TWO + "u1,1;", 23, 2);
        faulty(TWO + "i0,1;i0,1;", 28, 2);
        faulty(TWO + "u0,1;u1,0;", 28, 2);
        faulty(TWO + "i0,1;u0,1;", 28, 2);
        faulty(TWO + "u1,0;i0,1;", 28, 2);
        faulty(DOOR + "p0,0;i0,1;", 18, 2);
        read(SIX + "i5,0;i5,1;", 6);
        faulty(SIX + "i6,0;", 66, 2);
        faulty(SIX + "i5,6;", 68, 2);
        read(EIGHT, 6);
        faulty(EIGHT + "i2,3;", 105, 3);
    }

    private static void aTownStandsInPlaceOfTheOneBefore() {
        Check.sentence(0, "A TOWN that is read stands in place of the one before (none at first): DAY 0; "
                + "nobody has gone through any DOOR, no gifts; no ACT can be undone.");
        DoorVotes x = Check.townOf("h4,0;d0,1;d0,1;d2,3;p0,4;n0,4;p0,4;i0,1;u0,2;");
        x.knock(0, 0);
        x.knock(1, 1);
        x.gift(0, 1);
        x.gift(1, -1);
        x.days(5);
        x.build(1, 3);
        Check.due("acts", x.count(7), 10);
        x.parade(2, 0, 0);
        x.drawn(60, 3, 0);
        Check.due("the next", Check.tell(x, DOOR + "d0,1;s1,3;f1,0;"), 2);
        int[] counts = {2, 2, 2, 0, 0, 0, 0, 0};
        for (int what = 1; what <= 8; what++) {
            Check.due("count(" + what + ")", x.count(what), counts[what - 1]);
        }
        for (int p = 0; p < 2; p++) {
            Check.due("room of " + p, x.person(p, 0), 1);
            for (int what = 2; what < 6; what++) {
                Check.due("person(" + p + ", " + what + ")", x.person(p, what), 0);
            }
            for (int d = 0; d < 2; d++) {
                Check.due("times", x.at(p, d, 0), 0);
                Check.due("last", x.at(p, d, 1), NONE);
            }
        }
        Check.due("undo()", x.undo(), STATE);
        Check.due("the people of before are gone", x.person(2, 0), BAD);
        Check.due("the doors of before are gone", x.door(2, 0), BAD);
        Check.due("the rooms of before are gone", x.build(1, 3), BAD);
        Check.due("a door is new", x.build(1, 0), 2);
        Check.due("last at it", x.at(0, 2, 1), NONE);
    }

    private static void theFirstTokenIsTold() {
        Check.sentence(0, "FAULTS, the first TOKEN that has one (its first byte)");
        faulty("h7,10;", 1, 2);
        faulty("h2,10;d0,0;", 3, 2);
        faulty("h12,0;", 1, 2);
        faulty("h2,99;", 3, 2);
        faulty(LAW + "d0,0;p9,9;", 8, 2);
        faulty(LAW + "d10,1;", 6, 2);
        faulty(LAW + "d0,10;", 8, 2);
        faulty(DOOR + "p0,77;!", 13, 2);
        faulty(DOOR + "p0,3;!123", 15, 1);
        faulty(TWO + "i00,00;", 24, 2);
    }

    private static void ofOneTokenTheLeast() {
        Check.sentence(0, "of one TOKEN the least");
        // Too many figures, and too great; not here, and one too many.
        faulty("h777,0;", 1, 1);
        faulty(SIX_DOORS + "p0,0;d0,1;", 40, 1);
        faulty(SIX + "i0,1;p0,0;", 70, 1);
        faulty(EIGHT + "p0,0;", 105, 1);
        faulty(EIGHT + "d0,1;", 105, 1);
    }

    private static void whatIsNoToken() {
        Check.sentence(0, "1 it cannot stand there, or is none (a run of three figures, at its first;");
        faulty("h123", 1, 1);
        faulty("h1234,0;", 1, 1);
        faulty("h2,123456;", 3, 1);
        faulty("123", 0, 1);
        faulty(DOOR + "123", 10, 1);
        faulty(TWO + "i1,100;", 23, 1);
        faulty("h2,-1;", 3, 1);
        faulty("h2.0;", 2, 1);
        faulty("h2,0:", 4, 1);
        faulty("h2,0/", 4, 1);
        faulty("h2,:;", 3, 1);
        faulty("h2,/;", 3, 1);
        faulty(LAW + "\n", 5, 1);
    }

    private static void theEndIsHowManyBytesThereAre() {
        Check.sentence(0, "the end: how many bytes there are)");
        // A text that ends too early anywhere: the end is what cannot stand there, but where a person has been told.
        for (int length = 0; length < 20; length++) {
            if (length == 15) {
                read(TWO.substring(0, length), 1);
            } else {
                faulty(TWO.substring(0, length), length, 1);
            }
        }
        String tie = TWO + "i0,1;";
        for (int length = 21; length < 25; length++) {
            faulty(tie.substring(0, length), length, 1);
        }
        String full = stretched(EIGHT.substring(0, EIGHT.length() - 1), 120);
        Check.due("bytes", full.length(), 120);
        faulty(full, 120, 1);
    }

    private static void numbersThatAreNotAsTold() {
        Check.sentence(0, "2 a NUMBER that is not as told");
        faulty("h1,0;", 1, 2);
        faulty("h7,0;", 1, 2);
        faulty("h6,10;", 3, 2);
        faulty(LAW + "d2,1;", 6, 2);
        faulty(LAW + "d1,2;", 8, 2);
        faulty(LAW + "d1,01;", 8, 2);
        faulty(DOOR + "n2,6;", 11, 2);
        faulty(DOOR + "n1,7;", 13, 2);
        faulty(TWO + "u2,1;", 21, 2);
        faulty(TWO + "u1,2;", 23, 2);
        faulty(TWO + "u1,99;", 23, 2);
    }

    private static void oneMoreThanThereIsRoomFor() {
        Check.sentence(0, "3 a door, a person, a tie more than there is room for (its letter).");
        faulty(SIX_DOORS + "d9,9;", 35, 3);
        faulty(SIX_DOORS + "d", 35, 3);
        faulty(SIX_DOORS, 35, 1);
        for (String sort : new String[] {"p", "f", "s", "k", "n"}) {
            faulty(SIX + sort, 65, 3);
        }
        faulty(SIX + "h", 65, 1);
        faulty(EIGHT + "i", 105, 3);
        faulty(EIGHT + "u0,0;", 105, 3);
    }

    private static void theTapeIsEmptyThen() {
        Check.sentence(7, "The tape, empty then, is read: how many PEOPLE there are.");
        DoorVotes x = new DoorVotes();
        Check.due("town()", Check.tell(x, DOOR + "p0,0;"), 1);
        Check.due("bytes", x.count(8), 0);
        Check.due("town() of nothing", x.town(), FIRST_PLACE);
        Check.due("the town stands", x.count(3), 1);
        Check.due("a fault", Check.tell(x, DOOR), FIRST_PLACE - 10);
        Check.due("bytes behind a fault", x.count(8), 0);
        Check.due("the first byte then", x.feed('h'), 1);
        x.town();
        Check.due("six", Check.tell(x, SIX), 6);
    }

    private static void aFaultLeavesAll() {
        Check.sentence(7, "-1000100 less the place of a FAULT: all stays.");
        DoorVotes x = Check.townOf(TWO + "i0,1;");
        x.knock(0, 0);
        x.gift(1, 1);
        x.image(0);
        x.row(1, 0, 2);
        x.ask(0, 0);
        Check.tell(x, "h");
        String before = Check.told(x);
        Check.due("a fault at the end", Check.tell(x, "h6,9;d5,4;d3,2;"), FIRST_PLACE - 15);
        Check.unchanged("a fault", x, before);
        Check.due("a fault at 0", Check.tell(x, "x"), FIRST_PLACE);
        Check.unchanged("a fault", x, before);
        Check.due("undo() behind faults", x.undo(), 1);
        Check.due("restore(0) behind faults", x.restore(0), 1);
        Check.due("the rows stay", x.drop(1), 2);
    }

    private static void theLatestFault() {
        Check.sentence(8, "The number of the latest FAULT; 0 before one.");
        DoorVotes x = new DoorVotes();
        Check.due("at first", x.fault(), 0);
        Check.tell(x, DOOR + "p0,0;");
        Check.due("behind a town", x.fault(), 0);
        Check.tell(x, "h1,0;");
        Check.due("behind a number", x.fault(), 2);
        Check.tell(x, SIX_DOORS + "d");
        Check.due("behind a seventh door", x.fault(), 3);
        Check.tell(x, DOOR + "p0,0;");
        Check.due("behind another town", x.fault(), 3);
        x.knock(0, 9);
        Check.due("behind what is BAD", x.fault(), 3);
        x.town();
        Check.due("behind an empty tape", x.fault(), 1);
    }
}
