import java.util.Arrays;

/** Doors that open by the vote of those who have gone through them; README.md says how it is used. */
public final class DoorVotes {
    public static final int NONE = -1000000, BAD = -1000001, STATE = -1000002, FULL = -1000003;

    private static final int FINDINGS_FROM = -1000010;
    private static final int FAULTS_FROM = -1000100;
    private static final int NULL = 1, PLACE = 2, KIND = 3, SIZE = 4, STORE = 5;

    private static final int ROWS = 8;
    private static final int IMAGES = 2;
    private static final int MOST_ROOMS = 6;
    private static final int MOST_DOORS = 6;
    private static final int MOST_PEOPLE = 6;
    private static final int MOST_TIMES = 99;
    private static final int MOST_DAYS = 999;
    private static final int MOST_DAYS_A_CALL = 24;
    private static final int MOST_GIFTS = 9;
    private static final int MOST_BENT = 6;
    private static final int MOST_DRAWS = 60;
    private static final int MOST_SEED = 999999;

    private static final int PASSER = 1, FOUNDER = 2, SLAMMER = 3, CHILD = 4, NURSE = 5;
    private static final int KINDS = 6;
    /** The KIND that each KIND is, too; NONE above PERSON. */
    private static final int[] KIND_ABOVE = {NONE, 0, 1, 1, 0, 4};

    private static final int UNKNOWN = -1;

    private final Row[] rows = new Row[ROWS];
    private final Reader reader = new Reader();
    private final Acts acts = new Acts();
    private final Asker asker = new Asker();
    private final Town town = new Town();
    /** What is only foretold, or read and not yet known to be without a FAULT, happens here. */
    private final Town spare = new Town();
    private final Town[] images = new Town[IMAGES];
    private final Ballot ballot = new Ballot();
    private final Ways ways = new Ways();
    private final Sway sway = new Sway();
    private int latestFault;
    private int latestFinding;

    public DoorVotes() {
        for (int k = 0; k < ROWS; k++) {
            rows[k] = new Row();
        }
        for (int k = 0; k < IMAGES; k++) {
            images[k] = new Town();
        }
    }

    // ---- rows

    public int row(int row, int lane, int n) {
        if (!within(row, ROWS) || !within(lane, Row.LANES) || n > Row.MOST_ITEMS) {
            return BAD;
        }
        if (n < 0) {
            return finding(SIZE);
        }
        rows[row].begin(lane, n);
        return unfound(n);
    }

    public int set(int row, int i, int v) {
        if (!within(row, ROWS)) {
            return BAD;
        }
        int finding = rows[row].findingOf(i, 1);
        if (finding != 0) {
            return finding(finding);
        }
        return unfound(rows[row].put(i, v));
    }

    public int copy(int a, int i, int b, int j, int n) {
        if (!within(a, ROWS) || !within(b, ROWS)) {
            return BAD;
        }
        if (rows[a].isMissing() || rows[b].isMissing()) {
            return finding(NULL);
        }
        if (rows[a].lane != rows[b].lane) {
            return finding(STORE);
        }
        if (rows[a].findingOf(i, n) != 0 || rows[b].findingOf(j, n) != 0) {
            return finding(PLACE);
        }
        System.arraycopy(rows[a].items, i, rows[b].items, j, n);
        return unfound(n);
    }

    public int drop(int row) {
        if (!within(row, ROWS)) {
            return BAD;
        }
        if (rows[row].isMissing()) {
            return finding(NULL);
        }
        return unfound(rows[row].end());
    }

    // ---- what is told

    public int feed(int letter) {
        if (!within(letter, 256)) {
            return BAD;
        }
        if (reader.length == Reader.MOST_BYTES) {
            return FULL;
        }
        return reader.take(letter);
    }

    public int town() {
        boolean read = reader.readInto(spare);
        reader.length = 0;
        if (!read) {
            latestFault = reader.fault;
            return FAULTS_FROM - reader.place;
        }
        town.become(spare);
        acts.forget();
        return town.people;
    }

    public int fault() {
        return latestFault;
    }

    public int undo() {
        if (acts.kept == 0) {
            return STATE;
        }
        acts.takeBack(town);
        return acts.kept;
    }

    // ---- what is done

    public int knock(int person, int door) {
        if (!isPerson(person) || !isDoor(door)) {
            return BAD;
        }
        if (!town.isAtDoor(person, door)) {
            return STATE;
        }
        if (!opens(town, person, door)) {
            acts.keep(Acts.STAYED, person, door);
            return 0;
        }
        acts.keep(Acts.PASSED, person, door);
        acts.remember(town, person, door);
        town.pass(person, door);
        return 1;
    }

    public int days(int n) {
        if (!isTown()) {
            return STATE;
        }
        if (n < 1 || n > MOST_DAYS_A_CALL) {
            return BAD;
        }
        if (town.day + n > MOST_DAYS) {
            return FULL;
        }
        for (int k = 0; k < n; k++) {
            acts.keep(Acts.DAY, 0, 0);
            town.day++;
        }
        return town.day;
    }

    public int gift(int person, int by) {
        if (!isPerson(person) || by != 1 && by != -1) {
            return BAD;
        }
        int then = town.gifts[person] + by;
        if (then > MOST_GIFTS || then < -MOST_GIFTS) {
            return FULL;
        }
        acts.keep(by == 1 ? Acts.GIFT : Acts.INSULT, person, 0);
        town.gifts[person] = then;
        return then;
    }

    public int build(int a, int b) {
        if (!isRoom(a) || !isRoom(b) || a == b) {
            return BAD;
        }
        if (town.doors == MOST_DOORS) {
            return FULL;
        }
        acts.keep(Acts.BUILT, 0, town.doors);
        town.addDoor(a, b);
        return town.doors - 1;
    }

    public int person(int person, int what) {
        if (!isPerson(person)) {
            return BAD;
        }
        switch (what) {
            case 0: return town.room[person];
            case 1: return town.bent[person];
            case 2: return town.gifts[person];
            case 3: return town.timesOf(person);
            case 4: return town.kin[person];
            case 5: return town.feuds[person];
            default: return BAD;
        }
    }

    public int door(int door, int what) {
        if (!isDoor(door)) {
            return BAD;
        }
        switch (what) {
            case 0: return town.sideA[door];
            case 1: return town.sideB[door];
            case 2: return town.passedThrough(door);
            default: return BAD;
        }
    }

    public int at(int person, int door, int what) {
        if (!isPerson(person) || !isDoor(door)) {
            return BAD;
        }
        int cell = Town.cellOf(person, door);
        switch (what) {
            case 0: return town.times[cell];
            case 1: return town.last[cell];
            case 2: return town.freshIn(cell);
            case 3: return town.weightOf(person, door);
            case 4: return opens(town, person, door) ? 1 : 0;
            case 5: return votesAt(person, door, 1);
            case 6: return votesAt(person, door, -1);
            default: return BAD;
        }
    }

    public int favour(int person, int comer) {
        if (!isPerson(person) || !isPerson(comer) || person == comer) {
            return BAD;
        }
        return town.favourOf(person, comer);
    }

    // ---- foretold

    public int way(int person, int room, int what) {
        if (!isPerson(person) || !isRoom(room) || !within(what, 2)) {
            return BAD;
        }
        ways.take(town, ballot, person);
        ways.measureFrom(room);
        int own = town.room[person];
        return what == 0 ? ways.far[own] : ways.firstDoorFrom(own);
    }

    public int reach(int person) {
        return isPerson(person) ? roomsReached(person) : BAD;
    }

    public int locked() {
        if (!isTown()) {
            return STATE;
        }
        int people = 0;
        for (int k = 0; k < town.people; k++) {
            if (roomsReached(k) == 1 << town.room[k]) {
                people |= 1 << k;
            }
        }
        return people;
    }

    public int gifts(int person, int door, int what) {
        if (!isPerson(person) || !isDoor(door) || !within(what, 2)) {
            return BAD;
        }
        ballot.hold(town, person, door);
        sway.gather(town, ballot, person);
        sway.seek(ballot);
        return what == 0 ? sway.fewest : sway.people;
    }

    public int parade(int person, int door, int what) {
        if (!isPerson(person) || !isDoor(door) || !within(what, 2)) {
            return BAD;
        }
        ballot.hold(town, person, door);
        spare.become(town);
        for (int k = 0; k < town.people; k++) {
            spare.mark(k, door);
        }
        int fewest = NONE;
        int who = NONE;
        for (int mask = 0; mask < 1 << town.people; mask++) {
            boolean withItself = (mask >> person & 1) != 0;
            int many = Integer.bitCount(mask);
            // Masks come in rising order, so of several alike the first is the least.
            if (!withItself && (fewest == NONE || many < fewest) && ballot.opensBehind(mask, spare, door)) {
                fewest = many;
                who = mask;
            }
        }
        return what == 0 ? fewest : who;
    }

    public int newDoor(int person, int room, int what) {
        if (!isPerson(person) || !isRoom(room) || !within(what, 2)) {
            return BAD;
        }
        ways.take(town, ballot, person);
        int pair = NONE;
        int fewest = NONE;
        for (int a = 0; a < town.rooms; a++) {
            for (int b = a + 1; b < town.rooms; b++) {
                int many = ways.farWith(a, b, room, town.room[person]);
                if (many != NONE && (fewest == NONE || many < fewest)) {
                    fewest = many;
                    pair = 10 * a + b;
                }
            }
        }
        return what == 0 ? pair : fewest;
    }

    public int bents(int other, int person, int row, int i, int n, int what) {
        if (!isSeen(other, person, row, n) || !within(what, 2)) {
            return BAD;
        }
        int finding = rows[row].findingOf(i, n);
        if (finding != 0) {
            return finding(finding);
        }
        spare.become(town);
        int many = 0;
        int least = NONE;
        for (int bent = MOST_BENT; bent >= 0; bent--) {
            spare.bent[other] = bent;
            if (isSo(person, rows[row], i, n)) {
                many++;
                least = bent;
            }
        }
        return unfound(what == 0 ? many : least);
    }

    public int who(int other, int person, int row, int i, int n) {
        if (!isSeen(other, person, row, n)) {
            return BAD;
        }
        int finding = rows[row].findingOf(i, n);
        if (finding != 0) {
            return finding(finding);
        }
        spare.become(town);
        int kinds = 0;
        for (int kind = PASSER; kind < KINDS; kind++) {
            spare.kind[other] = kind;
            if (isSo(person, rows[row], i, n)) {
                kinds |= 1 << kind;
            }
        }
        return unfound(kinds);
    }

    public long awake(int person, int door, int p, int what) {
        if (!isPerson(person) || !isDoor(door) || !within(p, 11) || !within(what, 2)) {
            return BAD;
        }
        ballot.hold(town, person, door);
        long above = 0;
        long below = 1;
        for (int k = 1; k < town.people; k++) {
            below *= 10;
        }
        for (int mask = 0; mask < 1 << town.people; mask++) {
            boolean withItself = (mask >> person & 1) != 0;
            if (!withItself && ballot.opensAwake(mask)) {
                above += casesOf(Integer.bitCount(mask), town.people - 1, p);
            }
        }
        long common = commonDivisor(below, above);
        return common == 0 ? 0 : (what == 0 ? above : below) / common;
    }

    public int drawn(int n, int seed, int what) {
        if (!isTown()) {
            return STATE;
        }
        if (!within(n, MOST_DRAWS + 1) || seed < 1 || seed > MOST_SEED || !within(what, 2)) {
            return BAD;
        }
        spare.become(town);
        int let = 0;
        long x = seed;
        for (int k = 0; k < n; k++) {
            x = x * 16807 % 2147483647;
            int person = (int) (x % town.people);
            int door = (int) (x % town.doors);
            if (spare.isAtDoor(person, door) && opens(spare, person, door)) {
                spare.pass(person, door);
                let++;
            }
            if (x % 4 == 0) {
                spare.day++;
            }
        }
        return what == 0 ? let : spare.roomsAdded();
    }

    public int image(int k) {
        if (!within(k, IMAGES)) {
            return BAD;
        }
        if (!isTown()) {
            return STATE;
        }
        images[k].become(town);
        return 1;
    }

    public int restore(int k) {
        if (!within(k, IMAGES)) {
            return BAD;
        }
        if (images[k].people == 0) {
            return STATE;
        }
        town.become(images[k]);
        acts.forget();
        return 1;
    }

    // ---- asked

    public int kind(int one) {
        return isPerson(one) ? town.kind[one] : BAD;
    }

    public int as(int one, int kind) {
        if (!isPerson(one) || !within(kind, KINDS)) {
            return BAD;
        }
        return isOfKind(town.kind[one], kind) ? unfound(one) : finding(KIND);
    }

    public int ask(int one, int what) {
        if (!isPerson(one) || !within(what, 2)) {
            return BAD;
        }
        asker.traced = 0;
        return asker.answer(town, one, what, 0);
    }

    public int trace(int i) {
        return within(i, asker.traced) ? asker.trace[i] : NONE;
    }

    public int count(int what) {
        switch (what) {
            case 0: return rowsThere();
            case 1: return town.rooms;
            case 2: return town.doors;
            case 3: return town.people;
            case 4: return town.day;
            case 5: return town.allTimes();
            case 6: return town.ties;
            case 7: return acts.kept;
            case 8: return reader.length;
            default: return BAD;
        }
    }

    public int status() {
        return latestFinding;
    }

    // ---- what several calls share

    private static boolean within(int number, int bound) {
        return number >= 0 && number < bound;
    }

    private int finding(int number) {
        latestFinding = number;
        return FINDINGS_FROM - number;
    }

    private int unfound(int answer) {
        latestFinding = 0;
        return answer;
    }

    private boolean isTown() {
        return town.people > 0 && town.doors > 0;
    }

    private boolean isPerson(int person) {
        return within(person, town.people);
    }

    private boolean isDoor(int door) {
        return within(door, town.doors);
    }

    private boolean isRoom(int room) {
        return within(room, town.rooms);
    }

    private boolean isSeen(int other, int person, int row, int n) {
        return isPerson(other) && isPerson(person) && other != person && within(row, ROWS)
                && n >= 1 && n <= town.doors;
    }

    private boolean opens(Town where, int person, int door) {
        ballot.hold(where, person, door);
        return ballot.opens();
    }

    private int votesAt(int person, int door, int vote) {
        ballot.hold(town, person, door);
        return ballot.weightsOf(vote);
    }

    private int roomsReached(int person) {
        ways.take(town, ballot, person);
        ways.measureFrom(town.room[person]);
        return ways.roomsMeasured();
    }

    /** Whether in the spare TOWN the DOORS open to one just as the ROW tells. */
    private boolean isSo(int person, Row seen, int from, int n) {
        for (int door = 0; door < n; door++) {
            int told = seen.items[from + door];
            if (told != UNKNOWN && told != (opens(spare, person, door) ? 1 : 0)) {
                return false;
            }
        }
        return true;
    }

    /** Of 10 to the power of others cases those in which just these so many are awake. */
    private static long casesOf(int awake, int others, int p) {
        long cases = 1;
        for (int k = 0; k < others; k++) {
            cases *= k < awake ? p : 10 - p;
        }
        return cases;
    }

    private static long commonDivisor(long a, long b) {
        // Euclid's steps on longs are always fewer than a hundred.
        for (int k = 0; k < 100 && b != 0; k++) {
            long rest = a % b;
            a = b;
            b = rest;
        }
        return a;
    }

    private static boolean isOfKind(int own, int kind) {
        int k = own;
        for (int step = 0; step < KINDS && k != kind && within(k, KINDS); step++) {
            k = KIND_ABOVE[k];
        }
        return k == kind;
    }

    private int rowsThere() {
        int many = 0;
        for (int k = 0; k < ROWS; k++) {
            if (!rows[k].isMissing()) {
                many++;
            }
        }
        return many;
    }

    /** ITEMS of a LANE; the array is made once, and used again by every ROW that comes to this place. */
    private static final class Row {
        private static final int LANES = 3;
        private static final int MOST_ITEMS = 40;
        private static final int BYTES = 0, SHORTS = 1;
        private static final int MISSING = -1;

        private final int[] items = new int[MOST_ITEMS];
        private int lane = MISSING;
        private int size;

        private boolean isMissing() {
            return lane == MISSING;
        }

        private void begin(int newLane, int n) {
            lane = newLane;
            size = n;
            Arrays.fill(items, 0);
        }

        private int end() {
            lane = MISSING;
            return size;
        }

        /** What is found if n ITEMS from i on are wanted; 0: nothing. */
        private int findingOf(int i, int n) {
            if (isMissing()) {
                return NULL;
            }
            // size less n cannot overflow where i plus n could.
            return i < 0 || n < 0 || n > size || i > size - n ? PLACE : 0;
        }

        private int put(int i, int v) {
            items[i] = lane == BYTES ? (byte) v : lane == SHORTS ? (short) v : v;
            return items[i];
        }
    }

    /** ROOMS, DOORS and PEOPLE, and all that has come to pass among them; without PEOPLE there is no TOWN. */
    private static final class Town {
        private static final int MOST_CELLS = MOST_PEOPLE * MOST_DOORS;
        private static final int MIDDLE_BENT = 3;
        private static final int FOR_KIN = 5;
        private static final int FOR_FEUD = -9;
        private static final int FOR_FOUNDING = 9;

        private int rooms, fades, doors, people, ties, day;
        private final int[] sideA = new int[MOST_DOORS];
        private final int[] sideB = new int[MOST_DOORS];
        private final int[] kind = new int[MOST_PEOPLE];
        private final int[] room = new int[MOST_PEOPLE];
        private final int[] bent = new int[MOST_PEOPLE];
        private final int[] gifts = new int[MOST_PEOPLE];
        private final int[] kin = new int[MOST_PEOPLE];
        private final int[] feuds = new int[MOST_PEOPLE];
        private final int[] times = new int[MOST_CELLS];
        private final int[] last = new int[MOST_CELLS];

        private static int cellOf(int person, int door) {
            return person * MOST_DOORS + door;
        }

        private void become(Town other) {
            rooms = other.rooms;
            fades = other.fades;
            doors = other.doors;
            people = other.people;
            ties = other.ties;
            day = other.day;
            System.arraycopy(other.sideA, 0, sideA, 0, MOST_DOORS);
            System.arraycopy(other.sideB, 0, sideB, 0, MOST_DOORS);
            System.arraycopy(other.kind, 0, kind, 0, MOST_PEOPLE);
            System.arraycopy(other.room, 0, room, 0, MOST_PEOPLE);
            System.arraycopy(other.bent, 0, bent, 0, MOST_PEOPLE);
            System.arraycopy(other.gifts, 0, gifts, 0, MOST_PEOPLE);
            System.arraycopy(other.kin, 0, kin, 0, MOST_PEOPLE);
            System.arraycopy(other.feuds, 0, feuds, 0, MOST_PEOPLE);
            System.arraycopy(other.times, 0, times, 0, MOST_CELLS);
            System.arraycopy(other.last, 0, last, 0, MOST_CELLS);
        }

        private void begin(int newRooms, int newFades) {
            rooms = newRooms;
            fades = newFades;
            doors = 0;
            people = 0;
            ties = 0;
            day = 0;
        }

        private void addDoor(int a, int b) {
            sideA[doors] = a;
            sideB[doors] = b;
            for (int k = 0; k < MOST_PEOPLE; k++) {
                times[cellOf(k, doors)] = 0;
                last[cellOf(k, doors)] = NONE;
            }
            doors++;
        }

        private void addPerson(int newKind, int newRoom, int newBent) {
            kind[people] = newKind;
            room[people] = newRoom;
            bent[people] = newBent;
            gifts[people] = 0;
            kin[people] = 0;
            feuds[people] = 0;
            people++;
        }

        private void addTie(int[] among, int a, int b) {
            among[a] |= 1 << b;
            among[b] |= 1 << a;
            ties++;
        }

        private int tiedTo(int person) {
            return kin[person] | feuds[person];
        }

        private boolean isAtDoor(int person, int door) {
            return sideA[door] == room[person] || sideB[door] == room[person];
        }

        private void cross(int person, int door) {
            room[person] = room[person] == sideA[door] ? sideB[door] : sideA[door];
        }

        private void mark(int person, int door) {
            int cell = cellOf(person, door);
            times[cell] = Math.min(times[cell] + 1, MOST_TIMES);
            last[cell] = day;
        }

        private void pass(int person, int door) {
            mark(person, door);
            cross(person, door);
        }

        private int freshIn(int cell) {
            boolean fresh = fades == 0 || day - last[cell] <= fades;
            return fresh ? times[cell] : times[cell] / 2;
        }

        private int weightOf(int person, int door) {
            int cell = cellOf(person, door);
            switch (kind[person]) {
                case FOUNDER: return freshIn(cell) + (door == 0 ? FOR_FOUNDING : 0);
                case SLAMMER: return times[cell] % 3 == 0 ? 0 : freshIn(cell);
                case CHILD: return times[cell] == 0 ? 0 : 1;
                case NURSE: return times[cell] == 0 ? 0 : 2;
                default: return freshIn(cell);
            }
        }

        /** FAVOUR of one for another one, ahead of what a nurse makes of it. */
        private int leaningOf(int person, int comer) {
            int leaning = bent[person] - MIDDLE_BENT + gifts[person];
            if ((kin[person] >> comer & 1) != 0) {
                leaning += FOR_KIN;
            }
            if ((feuds[person] >> comer & 1) != 0) {
                leaning += FOR_FEUD;
            }
            return leaning;
        }

        private int favourOf(int person, int comer) {
            int leaning = leaningOf(person, comer);
            return kind[person] == NURSE ? Math.max(leaning, 0) : leaning;
        }

        private int timesOf(int person) {
            int all = 0;
            for (int door = 0; door < doors; door++) {
                all += times[cellOf(person, door)];
            }
            return all;
        }

        private int allTimes() {
            int all = 0;
            for (int k = 0; k < people; k++) {
                all += timesOf(k);
            }
            return all;
        }

        private int passedThrough(int door) {
            int passed = 0;
            for (int k = 0; k < people; k++) {
                if (times[cellOf(k, door)] != 0) {
                    passed |= 1 << k;
                }
            }
            return passed;
        }

        private int roomsAdded() {
            int sum = 0;
            for (int k = 0; k < people; k++) {
                sum += room[k];
            }
            return sum;
        }
    }

    /** Votes on one comer at one DOOR; the comer itself has no WEIGHT and no vote in it. */
    private static final class Ballot {
        private final int[] weight = new int[MOST_PEOPLE];
        private final int[] vote = new int[MOST_PEOPLE];
        private int voters;

        private void hold(Town town, int comer, int door) {
            voters = town.people;
            for (int k = 0; k < voters; k++) {
                weight[k] = k == comer ? 0 : town.weightOf(k, door);
                vote[k] = k == comer ? 0 : Integer.compare(town.favourOf(k, comer), 0);
            }
        }

        private int weightsOf(int side) {
            int sum = 0;
            for (int k = 0; k < voters; k++) {
                sum += vote[k] == side ? weight[k] : 0;
            }
            return sum;
        }

        private int margin() {
            return weightsOf(1) - weightsOf(-1);
        }

        private boolean opens() {
            return opensAwake((1 << voters) - 1);
        }

        private boolean opensAwake(int awake) {
            int margin = 0;
            int all = 0;
            for (int k = 0; k < voters; k++) {
                if ((awake >> k & 1) != 0) {
                    margin += vote[k] * weight[k];
                    all += weight[k];
                }
            }
            return margin > 0 || all == 0;
        }

        /** Whether it opens when those of the parade have the WEIGHTS that they have in another TOWN. */
        private boolean opensBehind(int parade, Town marched, int door) {
            int margin = 0;
            int all = 0;
            for (int k = 0; k < voters; k++) {
                int weighs = (parade >> k & 1) != 0 ? marched.weightOf(k, door) : weight[k];
                margin += vote[k] * weighs;
                all += weighs;
            }
            return margin > 0 || all == 0;
        }
    }

    /** How far ROOMS are from one another by the DOORS that OPEN to one. */
    private static final class Ways {
        /** One more than DOORS, for the new DOOR that is only thought of. */
        private static final int MOST_OPEN = MOST_DOORS + 1;

        private final int[] sideA = new int[MOST_OPEN];
        private final int[] sideB = new int[MOST_OPEN];
        private final int[] door = new int[MOST_OPEN];
        private final int[] far = new int[MOST_ROOMS];
        private int open;

        private void take(Town town, Ballot ballot, int person) {
            open = 0;
            for (int k = 0; k < town.doors; k++) {
                ballot.hold(town, person, k);
                if (ballot.opens()) {
                    add(town.sideA[k], town.sideB[k], k);
                }
            }
        }

        private void add(int a, int b, int number) {
            sideA[open] = a;
            sideB[open] = b;
            door[open] = number;
            open++;
        }

        private void measureFrom(int room) {
            Arrays.fill(far, NONE);
            far[room] = 0;
            for (int step = 1; step < MOST_ROOMS; step++) {
                for (int k = 0; k < open; k++) {
                    spread(sideA[k], sideB[k], step);
                    spread(sideB[k], sideA[k], step);
                }
            }
        }

        private void spread(int from, int to, int step) {
            if (far[from] == step - 1 && far[to] == NONE) {
                far[to] = step;
            }
        }

        private int roomsMeasured() {
            int rooms = 0;
            for (int k = 0; k < MOST_ROOMS; k++) {
                if (far[k] != NONE) {
                    rooms |= 1 << k;
                }
            }
            return rooms;
        }

        /** The least DOOR of a ROOM behind which it is one DOOR less; NONE if it is there, or has no WAY. */
        private int firstDoorFrom(int room) {
            int nearer = far[room] - 1;
            for (int k = 0; k < open; k++) {
                boolean byA = sideA[k] == room && far[sideB[k]] == nearer;
                boolean byB = sideB[k] == room && far[sideA[k]] == nearer;
                if (byA || byB) {
                    return door[k];
                }
            }
            return NONE;
        }

        /** How far it is to a ROOM from another one, if there is a DOOR between a and b, too. */
        private int farWith(int a, int b, int to, int from) {
            // A new DOOR opens to everyone: nobody has gone through it, and it is never DOOR 0.
            add(a, b, NONE);
            measureFrom(to);
            open--;
            return far[from];
        }
    }

    /** The fewest gifts by which votes change enough. */
    private static final class Sway {
        private static final int MOST_TO_ONE = 20;
        private static final int MOST_TO_ALL = 40;
        /** What a voter may be brought to: 0 as it is, 1 no vote, 2 a vote for the comer. */
        private static final int WAYS_OF_ONE = 3;

        private final int[] voter = new int[MOST_PEOPLE];
        private final int[] price = new int[MOST_PEOPLE * WAYS_OF_ONE];
        private final int[] gain = new int[MOST_PEOPLE * WAYS_OF_ONE];
        private int voters;
        private int fewest;
        private int people;

        /** Those alone whose vote could be bettered: any other gift would be one too many. */
        private void gather(Town town, Ballot ballot, int comer) {
            voters = 0;
            for (int k = 0; k < town.people; k++) {
                if (k != comer && ballot.weight[k] > 0 && ballot.vote[k] <= 0) {
                    offer(k, town.leaningOf(k, comer), ballot.vote[k], ballot.weight[k]);
                }
            }
        }

        private void offer(int who, int leaning, int vote, int weight) {
            int way = voters * WAYS_OF_ONE;
            voter[voters] = who;
            price[way] = 0;
            gain[way] = 0;
            price[way + 1] = vote < 0 ? -leaning : MOST_TO_ONE + 1;
            gain[way + 1] = weight;
            price[way + 2] = 1 - leaning;
            gain[way + 2] = vote < 0 ? 2 * weight : weight;
            voters++;
        }

        private void seek(Ballot ballot) {
            fewest = ballot.opens() ? 0 : NONE;
            people = fewest;
            int needed = 1 - ballot.margin();
            int bargains = 1;
            for (int k = 0; k < voters; k++) {
                bargains *= WAYS_OF_ONE;
            }
            for (int bargain = 1; bargain < bargains && fewest != 0; bargain++) {
                weigh(bargain, needed);
            }
        }

        private void weigh(int bargain, int needed) {
            int rest = bargain;
            int all = 0;
            int gained = 0;
            int who = 0;
            for (int k = 0; k < voters; k++) {
                int way = k * WAYS_OF_ONE + rest % WAYS_OF_ONE;
                rest /= WAYS_OF_ONE;
                if (price[way] > MOST_TO_ONE) {
                    return;
                }
                all += price[way];
                gained += gain[way];
                who |= price[way] > 0 ? 1 << voter[k] : 0;
            }
            boolean better = fewest == NONE || all < fewest || all == fewest && who < people;
            if (gained >= needed && all <= MOST_TO_ALL && better) {
                fewest = all;
                people = who;
            }
        }
    }

    /** What was done last, each with what is needed to undo it; a ring, so that the oldest is forgotten. */
    private static final class Acts {
        private static final int MOST = 24;
        private static final int STAYED = 0, PASSED = 1, DAY = 2, GIFT = 3, INSULT = 4, BUILT = 5;

        private final int[] act = new int[MOST];
        private final int[] person = new int[MOST];
        private final int[] door = new int[MOST];
        private final int[] timesBefore = new int[MOST];
        private final int[] lastBefore = new int[MOST];
        private int next;
        private int kept;

        private void forget() {
            kept = 0;
        }

        private void keep(int newAct, int onePerson, int oneDoor) {
            act[next] = newAct;
            person[next] = onePerson;
            door[next] = oneDoor;
            next = (next + 1) % MOST;
            kept = Math.min(kept + 1, MOST);
        }

        /** TIMES stay at 99, so they can't be counted back: the ACT kept just now takes them along. */
        private void remember(Town town, int onePerson, int oneDoor) {
            int latest = (next + MOST - 1) % MOST;
            int cell = Town.cellOf(onePerson, oneDoor);
            timesBefore[latest] = town.times[cell];
            lastBefore[latest] = town.last[cell];
        }

        private void takeBack(Town town) {
            next = (next + MOST - 1) % MOST;
            kept--;
            switch (act[next]) {
                case PASSED:
                    stepBack(town, person[next], door[next]);
                    break;
                case DAY:
                    town.day--;
                    break;
                case GIFT:
                    town.gifts[person[next]]--;
                    break;
                case INSULT:
                    town.gifts[person[next]]++;
                    break;
                case BUILT:
                    town.doors--;
                    break;
                default:
                    break;
            }
        }

        private void stepBack(Town town, int onePerson, int oneDoor) {
            int cell = Town.cellOf(onePerson, oneDoor);
            town.cross(onePerson, oneDoor);
            town.times[cell] = timesBefore[next];
            town.last[cell] = lastBefore[next];
        }
    }

    /** Answers ASKS by BODIES, and leaves THE TRACE. */
    private static final class Asker {
        private static final int MOST_TRACED = 16;
        /** SIZE of a founder goes deepest, 6 levels; the bound only shows that there is an end. */
        private static final int DEEPEST = 16;
        private static final int ASKED_SIZE = 0, ASKED_MARK = 1;
        /** The BODY told for each KIND; NONE: that of the KIND above it begins. */
        private static final int[] SIZE_BODIES = {10, 11, 12, NONE, 13, 14};
        private static final int[] MARK_BODIES = {20, 21, 24, 22, 23, NONE};

        private final int[] trace = new int[MOST_TRACED];
        private int traced;

        private int answer(Town town, int one, int what, int depth) {
            int kind = town.kind[one];
            for (int step = 0; step < KINDS && within(kind, KINDS); step++) {
                int body = what == ASKED_SIZE ? SIZE_BODIES[kind] : MARK_BODIES[kind];
                if (body != NONE) {
                    return give(town, one, body, depth + 1);
                }
                kind = KIND_ABOVE[kind];
            }
            return NONE;
        }

        private int give(Town town, int one, int body, int depth) {
            if (depth > DEEPEST) {
                return NONE;
            }
            leave(body);
            switch (body) {
                case 10: return town.timesOf(one);
                case 11: return give(town, one, 10, depth + 1) + answer(town, one, ASKED_MARK, depth + 1);
                case 12: return 0 - give(town, one, 11, depth + 1);
                case 13: return give(town, one, 10, depth + 1) - 100;
                case 14: return 2 * give(town, one, 13, depth + 1);
                case 20: return one;
                case 21: return give(town, one, 20, depth + 1) + town.bent[one];
                case 22: return give(town, one, 21, depth + 1) - 1000;
                case 23: return give(town, one, 20, depth + 1) - answer(town, one, ASKED_SIZE, depth + 1);
                case 24: return 2 * give(town, one, 21, depth + 1);
                default: return NONE;
            }
        }

        private void leave(int body) {
            if (traced < MOST_TRACED) {
                trace[traced] = body;
                traced++;
            }
        }
    }

    /** The tape, and how a TOWN is read from it up to the first FAULT. */
    private static final class Reader {
        private static final int MOST_BYTES = 120;
        private static final int END = -1;
        private static final int MISPLACED = 1, NOT_AS_TOLD = 2, NO_ROOM = 3;
        private static final int LEAST_ROOMS = 2;
        private static final int MOST_FADES = 9;
        private static final int MOST_TIES = 8;

        private final int[] tape = new int[MOST_BYTES];
        private int length;
        /** Where the TOKEN begins that is looked at; that of the FAULT, if there was one. */
        private int place;
        private int fault;
        private int first;
        private int second;

        private int take(int letter) {
            tape[length] = letter;
            length++;
            return length;
        }

        private boolean readInto(Town town) {
            place = 0;
            return readLaw(town) && readDoors(town) && readPeople(town) && readTies(town);
        }

        private boolean readLaw(Town town) {
            if (!readSign('h') || !readFirst(LEAST_ROOMS, MOST_ROOMS) || !readSecond(MOST_FADES, 0)) {
                return false;
            }
            town.begin(first, second);
            return true;
        }

        private boolean readDoors(Town town) {
            if (byteAt(place) != 'd') {
                return failed(MISPLACED);
            }
            while (place < length && byteAt(place) == 'd') {
                if (town.doors == MOST_DOORS) {
                    return failed(NO_ROOM);
                }
                place++;
                if (!readFirst(0, town.rooms - 1) || !readSecond(town.rooms - 1, 1 << first)) {
                    return false;
                }
                town.addDoor(first, second);
            }
            return true;
        }

        private boolean readPeople(Town town) {
            if (kindOf(byteAt(place)) == NONE) {
                return failed(MISPLACED);
            }
            while (place < length && kindOf(byteAt(place)) != NONE) {
                if (town.people == MOST_PEOPLE) {
                    return failed(NO_ROOM);
                }
                int kind = kindOf(byteAt(place));
                place++;
                if (!readFirst(0, town.rooms - 1) || !readSecond(MOST_BENT, 0)) {
                    return false;
                }
                town.addPerson(kind, first, second);
            }
            return true;
        }

        private boolean readTies(Town town) {
            while (place < length) {
                int letter = byteAt(place);
                if (letter != 'i' && letter != 'u') {
                    return failed(MISPLACED);
                }
                if (town.ties == MOST_TIES) {
                    return failed(NO_ROOM);
                }
                place++;
                if (!readFirst(0, town.people - 1)
                        || !readSecond(town.people - 1, 1 << first | town.tiedTo(first))) {
                    return false;
                }
                town.addTie(letter == 'i' ? town.kin : town.feuds, first, second);
            }
            return true;
        }

        private static int kindOf(int letter) {
            switch (letter) {
                case 'p': return PASSER;
                case 'f': return FOUNDER;
                case 's': return SLAMMER;
                case 'k': return CHILD;
                case 'n': return NURSE;
                default: return NONE;
            }
        }

        private boolean readFirst(int least, int most) {
            first = readNumber(least, most, 0);
            return first != NONE && readSign(',');
        }

        /** Barred are numbers (bits) that it may not be, because of the first one. */
        private boolean readSecond(int most, int barred) {
            second = readNumber(0, most, barred);
            return second != NONE && readSign(';');
        }

        private boolean readSign(int sign) {
            if (byteAt(place) != sign) {
                return failed(MISPLACED);
            }
            place++;
            return true;
        }

        private int readNumber(int least, int most, int barred) {
            int figures = 0;
            int number = 0;
            for (int k = 0; k < 3 && isFigure(byteAt(place + k)); k++) {
                number = number * 10 + byteAt(place + k) - '0';
                figures++;
            }
            if (figures == 0 || figures > 2) {
                failed(MISPLACED);
                return NONE;
            }
            if (number < least || number > most || (barred >> number & 1) != 0) {
                failed(NOT_AS_TOLD);
                return NONE;
            }
            place += figures;
            return number;
        }

        private static boolean isFigure(int letter) {
            return letter >= '0' && letter <= '9';
        }

        private int byteAt(int where) {
            return within(where, length) ? tape[where] : END;
        }

        private boolean failed(int number) {
            fault = number;
            return false;
        }
    }
}
