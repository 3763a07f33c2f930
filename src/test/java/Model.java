import java.math.BigInteger;
import java.util.ArrayDeque;
import java.util.ArrayList;
import java.util.Deque;
import java.util.HashSet;
import java.util.List;
import java.util.Set;
import java.util.function.IntUnaryOperator;

/**
 * The document once more, written as plainly as the Java library allows and by other means than the class: whole
 * TOWNS are kept for undo, ways are walked one by one, gifts are tried in every number. Slow, for tests alone.
 */
final class Model {
    static final int NONE = -1000000, BAD = -1000001, STATE = -1000002, FULL = -1000003;

    static final class Door {
        int a, b;

        Door(int a, int b) {
            this.a = a;
            this.b = b;
        }

        int other(int room) {
            return room == a ? b : a;
        }
    }

    static final class Person {
        char sort;
        int room, bent, gifts;
        int[] times = new int[6];
        Integer[] last = new Integer[6];

        Person twin() {
            Person p = new Person();
            p.sort = sort;
            p.room = room;
            p.bent = bent;
            p.gifts = gifts;
            p.times = times.clone();
            p.last = last.clone();
            return p;
        }
    }

    static final class Tie {
        char sort;
        int a, b;

        Tie(char sort, int a, int b) {
            this.sort = sort;
            this.a = a;
            this.b = b;
        }

        boolean isOf(int x, int y) {
            return a == x && b == y || a == y && b == x;
        }
    }

    static final class Place {
        int rooms, fades, day;
        List<Door> doors = new ArrayList<>();
        List<Person> people = new ArrayList<>();
        List<Tie> ties = new ArrayList<>();

        Place twin() {
            Place t = new Place();
            t.rooms = rooms;
            t.fades = fades;
            t.day = day;
            t.doors.addAll(doors);
            for (Person p : people) {
                t.people.add(p.twin());
            }
            t.ties.addAll(ties);
            return t;
        }

        boolean tied(char sort, int x, int y) {
            return ties.stream().anyMatch(t -> t.sort == sort && t.isOf(x, y));
        }

        int fresh(int p, int d) {
            Person one = people.get(p);
            if (one.times[d] == 0 || fades == 0) {
                return one.times[d];
            }
            int gone = day - one.last[d];
            return gone > fades ? one.times[d] / 2 : one.times[d];
        }

        int weight(int p, int d) {
            Person one = people.get(p);
            int w = fresh(p, d);
            if (one.sort == 'f' && d == 0) {
                w += 9;
            }
            if (one.sort == 's' && one.times[d] % 3 == 0) {
                w = 0;
            }
            if (one.sort == 'k') {
                w = Math.min(one.times[d], 1);
            }
            if (one.sort == 'n') {
                w = 2 * Math.min(one.times[d], 1);
            }
            return w;
        }

        int favour(int p, int comer) {
            Person one = people.get(p);
            int f = one.bent - 3 + one.gifts;
            f += tied('i', p, comer) ? 5 : 0;
            f -= tied('u', p, comer) ? 9 : 0;
            return one.sort == 'n' && f < 0 ? 0 : f;
        }

        int side(int p, int d, boolean inFavour) {
            int sum = 0;
            for (int v = 0; v < people.size(); v++) {
                if (v != p && (inFavour ? favour(v, p) > 0 : favour(v, p) < 0)) {
                    sum += weight(v, d);
                }
            }
            return sum;
        }

        boolean opens(int p, int d) {
            return opens(p, d, 63);
        }

        boolean opens(int p, int d, int awake) {
            int in = 0, out = 0;
            boolean anyWeight = false;
            for (int v = 0; v < people.size(); v++) {
                if (v == p || (awake & 1 << v) == 0) {
                    continue;
                }
                anyWeight |= weight(v, d) != 0;
                in += favour(v, p) > 0 ? weight(v, d) : 0;
                out += favour(v, p) < 0 ? weight(v, d) : 0;
            }
            return in > out || !anyWeight;
        }

        void through(int p, int d) {
            Person one = people.get(p);
            one.times[d] = one.times[d] == 99 ? 99 : one.times[d] + 1;
            one.last[d] = day;
        }

        /** Walks every way without a room twice: {fewest doors, least first door}. */
        int[] way(int p, int room, int[] best, int at, int gone, int first, Set<Integer> seen) {
            if (at == room) {
                if (best[0] == NONE || gone < best[0] || gone == best[0] && first < best[1]) {
                    best[0] = gone;
                    best[1] = first;
                }
                return best;
            }
            for (int d = 0; d < doors.size(); d++) {
                Door door = doors.get(d);
                if (door.a != at && door.b != at || seen.contains(door.other(at)) || d < 6 && !opens(p, d)) {
                    continue;
                }
                Set<Integer> more = new HashSet<>(seen);
                more.add(door.other(at));
                way(p, room, best, door.other(at), gone + 1, gone == 0 ? d : first, more);
            }
            return best;
        }

        int[] way(int p, int room) {
            int from = people.get(p).room;
            return way(p, room, new int[] {NONE, NONE}, from, 0, NONE, new HashSet<>(Set.of(from)));
        }

        int reach(int p) {
            int bits = 0;
            for (int r = 0; r < rooms; r++) {
                bits |= way(p, r)[0] == NONE ? 0 : 1 << r;
            }
            return bits;
        }

        int timesOf(int p) {
            int sum = 0;
            for (int t : people.get(p).times) {
                sum += t;
            }
            return sum;
        }
    }

    private Place place = new Place();
    private final Place[] images = new Place[2];
    private final Deque<Place> before = new ArrayDeque<>();
    private final int[][] rows = new int[8][];
    private final int[] lanes = new int[8];
    private StringBuilder tape = new StringBuilder();
    private int fault, status;
    private List<Integer> trace = new ArrayList<>();

    private int finds(int number) {
        status = number;
        return -1000010 - number;
    }

    private int fine(int answer) {
        status = 0;
        return answer;
    }

    private boolean noRow(int row) {
        return row < 0 || row > 7;
    }

    private boolean noPerson(int p) {
        return p < 0 || p >= place.people.size();
    }

    private boolean noDoor(int d) {
        return d < 0 || d >= place.doors.size();
    }

    private boolean noRoom(int r) {
        return r < 0 || r >= place.rooms;
    }

    private boolean noTown() {
        return place.people.isEmpty();
    }

    private static boolean notHalf(int what) {
        return what != 0 && what != 1;
    }

    int row(int row, int lane, int n) {
        if (noRow(row) || lane < 0 || lane > 2 || n > 40) {
            return BAD;
        }
        if (n < 0) {
            return finds(4);
        }
        rows[row] = new int[n];
        lanes[row] = lane;
        return fine(n);
    }

    int set(int row, int i, int v) {
        if (noRow(row)) {
            return BAD;
        }
        if (rows[row] == null) {
            return finds(1);
        }
        if (i < 0 || i >= rows[row].length) {
            return finds(2);
        }
        int bits = new int[] {8, 16, 32}[lanes[row]];
        rows[row][i] = v << 32 - bits >> 32 - bits;
        return fine(rows[row][i]);
    }

    int copy(int a, int i, int b, int j, int n) {
        if (noRow(a) || noRow(b)) {
            return BAD;
        }
        if (rows[a] == null || rows[b] == null) {
            return finds(1);
        }
        if (lanes[a] != lanes[b]) {
            return finds(5);
        }
        if (i < 0 || j < 0 || n < 0 || (long) i + n > rows[a].length || (long) j + n > rows[b].length) {
            return finds(2);
        }
        int[] were = rows[a].clone();
        for (int k = 0; k < n; k++) {
            rows[b][j + k] = were[i + k];
        }
        return fine(n);
    }

    int drop(int row) {
        if (noRow(row)) {
            return BAD;
        }
        if (rows[row] == null) {
            return finds(1);
        }
        int n = rows[row].length;
        rows[row] = null;
        return fine(n);
    }

    int feed(int letter) {
        if (letter < 0 || letter > 255) {
            return BAD;
        }
        if (tape.length() == 120) {
            return FULL;
        }
        tape.append((char) letter);
        return tape.length();
    }

    /** A state for each TOKEN that may come; the text is cut into TOKENS first. */
    int town() {
        String text = tape.toString();
        tape = new StringBuilder();
        List<String> tokens = new ArrayList<>();
        List<Integer> places = new ArrayList<>();
        for (int k = 0; k < text.length();) {
            int end = k + 1;
            while (Character.isDigit(text.charAt(k)) && text.charAt(k) < 128 && end < text.length()
                    && text.charAt(end) >= '0' && text.charAt(end) <= '9') {
                end++;
            }
            tokens.add(text.substring(k, end));
            places.add(k);
            k = end;
        }
        tokens.add("");
        places.add(text.length());
        Place t = new Place();
        int bad = readTokens(tokens, t);
        if (bad >= 0) {
            return -1000100 - places.get(bad);
        }
        place = t;
        before.clear();
        return t.people.size();
    }

    private int readTokens(List<String> tokens, Place t) {
        int step = 0;
        char letter = ' ';
        int first = 0, second = 0;
        String may = "h";
        for (int k = 0; k < tokens.size(); k++) {
            String token = tokens.get(k);
            int wrong = 0;
            if (step == 0) {
                if (token.isEmpty() && !t.people.isEmpty()) {
                    return -1;
                }
                wrong = token.length() != 1 || may.indexOf(token) < 0 ? 1 : 0;
                if (wrong == 0) {
                    letter = token.charAt(0);
                    boolean full = letter == 'd' ? t.doors.size() == 6
                            : "pfskn".indexOf(letter) >= 0 ? t.people.size() == 6
                            : "iu".indexOf(letter) >= 0 && t.ties.size() == 8;
                    wrong = full ? 3 : 0;
                }
            } else if (step == 2 || step == 4) {
                wrong = token.equals(step == 2 ? "," : ";") ? 0 : 1;
            } else if (!token.matches("[0-9]{1,2}")) {
                wrong = 1;
            } else if (step == 1) {
                first = Integer.parseInt(token);
                wrong = letter == 'h' ? first < 2 || first > 6 ? 2 : 0
                        : first >= ("iu".indexOf(letter) >= 0 ? t.people.size() : t.rooms) ? 2 : 0;
            } else {
                second = Integer.parseInt(token);
                wrong = secondFits(letter, first, second, t) ? 0 : 2;
            }
            if (wrong != 0) {
                fault = wrong;
                return k;
            }
            if (step == 4) {
                may = take(letter, first, second, t);
            }
            step = (step + 1) % 5;
        }
        throw new IllegalStateException("a text without an end");
    }

    private static boolean secondFits(char letter, int first, int second, Place t) {
        switch (letter) {
            case 'h':
                return second <= 9;
            case 'd':
                return second < t.rooms && second != first;
            case 'i':
            case 'u':
                return second < t.people.size() && second != first
                        && !t.tied('i', first, second) && !t.tied('u', first, second);
            default:
                return second <= 6;
        }
    }

    /** Takes what is told, and answers which letters may follow. */
    private static String take(char letter, int first, int second, Place t) {
        switch (letter) {
            case 'h':
                t.rooms = first;
                t.fades = second;
                return "d";
            case 'd':
                t.doors.add(new Door(first, second));
                return "dpfskn";
            case 'i':
            case 'u':
                t.ties.add(new Tie(letter, first, second));
                return "iu";
            default:
                Person p = new Person();
                p.sort = letter;
                p.room = first;
                p.bent = second;
                t.people.add(p);
                return "pfskniu";
        }
    }

    int fault() {
        return fault;
    }

    int undo() {
        if (before.isEmpty()) {
            return STATE;
        }
        place = before.removeLast();
        return before.size();
    }

    private void act() {
        before.addLast(place.twin());
        if (before.size() > 24) {
            before.removeFirst();
        }
    }

    int knock(int p, int d) {
        if (noPerson(p) || noDoor(d)) {
            return BAD;
        }
        Person one = place.people.get(p);
        Door door = place.doors.get(d);
        if (one.room != door.a && one.room != door.b) {
            return STATE;
        }
        act();
        if (!place.opens(p, d)) {
            return 0;
        }
        one.room = door.other(one.room);
        place.through(p, d);
        return 1;
    }

    int days(int n) {
        if (noTown()) {
            return STATE;
        }
        if (n < 1 || n > 24) {
            return BAD;
        }
        if (place.day + n > 999) {
            return FULL;
        }
        for (int k = 0; k < n; k++) {
            act();
            place.day++;
        }
        return place.day;
    }

    int gift(int p, int by) {
        if (noPerson(p) || by * (long) by != 1) {
            return BAD;
        }
        if (Math.abs(place.people.get(p).gifts + by) > 9) {
            return FULL;
        }
        act();
        return place.people.get(p).gifts += by;
    }

    int build(int a, int b) {
        if (noRoom(a) || noRoom(b) || a == b) {
            return BAD;
        }
        if (place.doors.size() == 6) {
            return FULL;
        }
        act();
        place.doors.add(new Door(a, b));
        return place.doors.size() - 1;
    }

    int person(int p, int what) {
        if (noPerson(p) || what < 0 || what > 5) {
            return BAD;
        }
        Person one = place.people.get(p);
        int bits = 0;
        for (int v = 0; v < place.people.size(); v++) {
            bits |= place.tied(what == 4 ? 'i' : 'u', p, v) ? 1 << v : 0;
        }
        return new int[] {one.room, one.bent, one.gifts, place.timesOf(p), bits, bits}[what];
    }

    int door(int d, int what) {
        if (noDoor(d) || what < 0 || what > 2) {
            return BAD;
        }
        int bits = 0;
        for (int v = 0; v < place.people.size(); v++) {
            bits |= place.people.get(v).times[d] > 0 ? 1 << v : 0;
        }
        return new int[] {place.doors.get(d).a, place.doors.get(d).b, bits}[what];
    }

    int at(int p, int d, int what) {
        if (noPerson(p) || noDoor(d) || what < 0 || what > 6) {
            return BAD;
        }
        Person one = place.people.get(p);
        return new int[] {one.times[d], one.last[d] == null ? NONE : one.last[d], place.fresh(p, d),
            place.weight(p, d), place.opens(p, d) ? 1 : 0, place.side(p, d, true), place.side(p, d, false)}[what];
    }

    int favour(int p, int comer) {
        return noPerson(p) || noPerson(comer) || p == comer ? BAD : place.favour(p, comer);
    }

    int way(int p, int room, int what) {
        return noPerson(p) || noRoom(room) || notHalf(what) ? BAD : place.way(p, room)[what];
    }

    int reach(int p) {
        return noPerson(p) ? BAD : place.reach(p);
    }

    int locked() {
        if (noTown()) {
            return STATE;
        }
        int bits = 0;
        for (int p = 0; p < place.people.size(); p++) {
            bits |= Integer.bitCount(place.reach(p)) == 1 ? 1 << p : 0;
        }
        return bits;
    }

    /** Every number of gifts to each, one voter behind the other; alike standings are tried once. */
    int gifts(int p, int d, int what) {
        if (noPerson(p) || noDoor(d) || notHalf(what)) {
            return BAD;
        }
        int all = 0;
        Set<List<Integer>> standings = new HashSet<>(Set.of(List.of(0, 0, 0)));
        for (int v = 0; v < place.people.size(); v++) {
            if (v == p) {
                continue;
            }
            int weight = place.weight(v, d);
            all += weight;
            Set<List<Integer>> next = new HashSet<>();
            Place t = place.twin();
            for (int g = 0; g <= 20; g++) {
                int favour = t.favour(v, p);
                for (List<Integer> s : standings) {
                    int cost = s.get(0) + g;
                    if (cost <= 40) {
                        next.add(List.of(cost, s.get(1) | (g > 0 ? 1 << v : 0),
                                s.get(2) + Integer.signum(favour) * weight));
                    }
                }
                t.people.get(v).gifts++;
            }
            standings = next;
        }
        int cost = NONE, bits = NONE;
        for (List<Integer> s : standings) {
            boolean opens = s.get(2) > 0 || all == 0;
            boolean better = cost == NONE || s.get(0) < cost || s.get(0) == cost && s.get(1) < bits;
            if (opens && better) {
                cost = s.get(0);
                bits = s.get(1);
            }
        }
        return what == 0 ? cost : bits;
    }

    int parade(int p, int d, int what) {
        if (noPerson(p) || noDoor(d) || notHalf(what)) {
            return BAD;
        }
        for (int many = 0; many <= 5; many++) {
            for (int bits = 0; bits < 1 << place.people.size(); bits++) {
                if ((bits & 1 << p) != 0 || Integer.bitCount(bits) != many) {
                    continue;
                }
                Place t = place.twin();
                for (int v = 0; v < t.people.size(); v++) {
                    if ((bits & 1 << v) != 0) {
                        t.through(v, d);
                    }
                }
                if (t.opens(p, d)) {
                    return what == 0 ? many : bits;
                }
            }
        }
        return NONE;
    }

    int newDoor(int p, int room, int what) {
        if (noPerson(p) || noRoom(room) || notHalf(what)) {
            return BAD;
        }
        int fewest = NONE, pair = NONE;
        for (int a = 0; a < place.rooms; a++) {
            for (int b = a + 1; b < place.rooms; b++) {
                Place t = place.twin();
                t.doors.add(new Door(a, b));
                int many = t.way(p, room)[0];
                if (many != NONE && (fewest == NONE || many < fewest)) {
                    fewest = many;
                    pair = 10 * a + b;
                }
            }
        }
        return what == 0 ? pair : fewest;
    }

    private boolean isSo(Place t, int p, int row, int i, int n) {
        for (int d = 0; d < n; d++) {
            int told = rows[row][i + d];
            if (!(told == -1 || told == 1 && t.opens(p, d) || told == 0 && !t.opens(p, d))) {
                return false;
            }
        }
        return true;
    }

    private int seen(int other, int p, int row, int i, int n) {
        if (noPerson(other) || noPerson(p) || other == p || noRow(row) || n < 1 || n > place.doors.size()) {
            return BAD;
        }
        if (rows[row] == null) {
            return finds(1);
        }
        if (i < 0 || (long) i + n > rows[row].length) {
            return finds(2);
        }
        return fine(0);
    }

    int bents(int other, int p, int row, int i, int n, int what) {
        if (notHalf(what)) {
            return BAD;
        }
        int refused = seen(other, p, row, i, n);
        if (refused != 0) {
            return refused;
        }
        List<Integer> fits = new ArrayList<>();
        for (int bent = 0; bent <= 6; bent++) {
            Place t = place.twin();
            t.people.get(other).bent = bent;
            if (isSo(t, p, row, i, n)) {
                fits.add(bent);
            }
        }
        return what == 0 ? fits.size() : fits.isEmpty() ? NONE : fits.get(0);
    }

    int who(int other, int p, int row, int i, int n) {
        int refused = seen(other, p, row, i, n);
        if (refused != 0) {
            return refused;
        }
        int bits = 0;
        for (int kind = 1; kind <= 5; kind++) {
            Place t = place.twin();
            t.people.get(other).sort = " pfskn".charAt(kind);
            bits |= isSo(t, p, row, i, n) ? 1 << kind : 0;
        }
        return bits;
    }

    long awake(int p, int d, int of10, int what) {
        if (noPerson(p) || noDoor(d) || of10 < 0 || of10 > 10 || notHalf(what)) {
            return BAD;
        }
        BigInteger above = BigInteger.ZERO, below = BigInteger.TEN.pow(place.people.size() - 1);
        for (int bits = 0; bits < 1 << place.people.size(); bits++) {
            if ((bits & 1 << p) == 0 && place.opens(p, d, bits)) {
                int up = Integer.bitCount(bits);
                above = above.add(BigInteger.valueOf(of10).pow(up)
                        .multiply(BigInteger.valueOf(10 - of10).pow(place.people.size() - 1 - up)));
            }
        }
        BigInteger common = above.gcd(below);
        return (what == 0 ? above : below).divide(common).longValue();
    }

    int drawn(int n, int seed, int what) {
        if (noTown()) {
            return STATE;
        }
        if (n < 0 || n > 60 || seed < 1 || seed > 999999 || notHalf(what)) {
            return BAD;
        }
        Place t = place.twin();
        BigInteger x = BigInteger.valueOf(seed);
        int let = 0;
        for (int k = 0; k < n; k++) {
            x = x.multiply(BigInteger.valueOf(16807)).mod(BigInteger.valueOf(Integer.MAX_VALUE));
            int p = x.mod(BigInteger.valueOf(t.people.size())).intValue();
            int d = x.mod(BigInteger.valueOf(t.doors.size())).intValue();
            Door door = t.doors.get(d);
            Person one = t.people.get(p);
            if ((one.room == door.a || one.room == door.b) && t.opens(p, d)) {
                let++;
                one.room = door.other(one.room);
                t.through(p, d);
            }
            if (!x.testBit(0) && !x.testBit(1)) {
                t.day++;
            }
        }
        return what == 0 ? let : t.people.stream().mapToInt(one -> one.room).sum();
    }

    int image(int k) {
        if (notHalf(k)) {
            return BAD;
        }
        if (noTown()) {
            return STATE;
        }
        images[k] = place.twin();
        return 1;
    }

    int restore(int k) {
        if (notHalf(k)) {
            return BAD;
        }
        if (images[k] == null) {
            return STATE;
        }
        place = images[k].twin();
        before.clear();
        return 1;
    }

    int kind(int one) {
        return noPerson(one) ? BAD : " pfskn".indexOf(place.people.get(one).sort);
    }

    int as(int one, int kind) {
        if (noPerson(one) || kind < 0 || kind > 5) {
            return BAD;
        }
        int[] is = {0, 0b11, 0b111, 0b1011, 0b10001, 0b110001};
        return (is[kind(one)] & 1 << kind) != 0 ? fine(one) : finds(3);
    }

    /** Asked of objects of real classes, so that Java itself picks the BODIES. */
    int ask(int one, int what) {
        if (noPerson(one) || notHalf(what)) {
            return BAD;
        }
        trace = new ArrayList<>();
        Asked[] all = {new Asked(), new Passer(), new Founder(), new Slammer(), new Child(), new Nurse()};
        Asked asked = all[kind(one)];
        asked.number = one;
        asked.times = place.timesOf(one);
        asked.bent = place.people.get(one).bent;
        asked.leave = body -> {
            trace.add(body);
            return body;
        };
        return what == 0 ? asked.size() : asked.mark();
    }

    static class Asked {
        int number, times, bent;
        IntUnaryOperator leave;

        int size() {
            leave.applyAsInt(10);
            return times;
        }

        int mark() {
            leave.applyAsInt(20);
            return number;
        }
    }

    static class Passer extends Asked {
        @Override int size() {
            leave.applyAsInt(11);
            int ten = super.size();
            return ten + mark();
        }

        @Override int mark() {
            leave.applyAsInt(21);
            return super.mark() + bent;
        }
    }

    static class Founder extends Passer {
        @Override int size() {
            leave.applyAsInt(12);
            return -super.size();
        }

        @Override int mark() {
            leave.applyAsInt(24);
            return super.mark() * 2;
        }
    }

    static class Slammer extends Passer {
        @Override int mark() {
            leave.applyAsInt(22);
            return super.mark() - 1000;
        }
    }

    static class Child extends Asked {
        @Override int size() {
            leave.applyAsInt(13);
            return super.size() - 100;
        }

        @Override int mark() {
            leave.applyAsInt(23);
            int twenty = super.mark();
            return twenty - size();
        }
    }

    static class Nurse extends Child {
        @Override int size() {
            leave.applyAsInt(14);
            return super.size() * 2;
        }
    }

    int trace(int i) {
        return i >= 0 && i < trace.size() && i < 16 ? trace.get(i) : NONE;
    }

    int count(int what) {
        int there = 0, times = 0;
        for (int[] row : rows) {
            there += row == null ? 0 : 1;
        }
        for (int p = 0; p < place.people.size(); p++) {
            times += place.timesOf(p);
        }
        int[] all = {there, place.rooms, place.doors.size(), place.people.size(), place.day, times,
            place.ties.size(), before.size(), tape.length()};
        return what < 0 || what > 8 ? BAD : all[what];
    }

    int status() {
        return status;
    }
}
