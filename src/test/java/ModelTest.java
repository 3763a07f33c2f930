import java.util.Random;

/** Runs of drawn calls, at most 512 on an object, each answer held against the model's. */
public final class ModelTest {
    private static final int RUNS = 1500;
    private static final int CALLS = 512;
    /** Calls that come behind one another without a look at how many there were. */
    private static final int MOST_AT_ONCE = 9;
    private static final int[] ODD = {-1, 6, 7, 41, 100, Integer.MAX_VALUE, Integer.MIN_VALUE, -1000000};

    private final Random random;
    private final DoorVotes x = new DoorVotes();
    private final Model m = new Model();
    private int calls;

    private ModelTest(long seed) {
        random = new Random(seed);
    }

    public static void main(String[] args) {
        for (int run = 0; run < RUNS; run++) {
            new ModelTest(run).play();
        }
        Check.end();
    }

    private void play() {
        if (random.nextInt(10) != 0) {
            tell(townText());
        }
        // Some runs dwell on few sorts of calls, so that deep states come about.
        boolean busy = random.nextBoolean();
        while (calls < CALLS - MOST_AT_ONCE) {
            int choice = random.nextInt(100);
            if (choice < 3 && calls + 130 < CALLS) {
                tell(random.nextInt(4) == 0 ? townText() : spoilt(townText()));
            } else if (busy && choice < 70) {
                deed();
            } else if (choice < 20) {
                rowCall();
            } else if (choice < 45) {
                deed();
            } else {
                question();
            }
        }
    }

    private void same(String call, long got, long want) {
        calls++;
        Check.due(call, got, want);
    }

    private int upTo(int most) {
        return random.nextInt(30) == 0 ? ODD[random.nextInt(ODD.length)] : random.nextInt(most + 1);
    }

    private int person() {
        return random.nextInt(30) == 0 ? upTo(6) : random.nextInt(Math.max(1, m.count(3)));
    }

    private int door() {
        return random.nextInt(30) == 0 ? upTo(6) : random.nextInt(Math.max(1, m.count(2)));
    }

    private int room() {
        return random.nextInt(30) == 0 ? upTo(6) : random.nextInt(Math.max(1, m.count(1)));
    }

    private String townText() {
        int rooms = 2 + random.nextInt(5);
        StringBuilder text = new StringBuilder();
        text.append('h').append(rooms).append(',').append(random.nextInt(4) == 0 ? 0 : random.nextInt(10)).append(';');
        int doors = 1 + random.nextInt(6);
        for (int d = 0; d < doors; d++) {
            int a = random.nextInt(rooms);
            int b = (a + 1 + random.nextInt(rooms - 1)) % rooms;
            text.append('d').append(a).append(',').append(b).append(';');
        }
        int people = 1 + random.nextInt(6);
        for (int p = 0; p < people; p++) {
            text.append("pfskn".charAt(random.nextInt(5))).append(random.nextInt(rooms)).append(',')
                    .append(random.nextInt(3) == 0 ? 3 : random.nextInt(7)).append(';');
        }
        boolean[] tied = new boolean[36];
        for (int t = random.nextInt(9); t > 0 && people > 1; t--) {
            int a = random.nextInt(people);
            int b = (a + 1 + random.nextInt(people - 1)) % people;
            if (!tied[a * 6 + b]) {
                tied[a * 6 + b] = true;
                tied[b * 6 + a] = true;
                text.append(random.nextBoolean() ? 'i' : 'u').append(a).append(',').append(b).append(';');
            }
        }
        return text.toString();
    }

    private String spoilt(String text) {
        StringBuilder s = new StringBuilder(text);
        String bytes = "hdpfskniu0123456789,; x\u00e9\u0000";
        for (int k = random.nextInt(3); k >= 0; k--) {
            int where = random.nextInt(s.length());
            switch (random.nextInt(4)) {
                case 0:
                    s.setCharAt(where, bytes.charAt(random.nextInt(bytes.length())));
                    break;
                case 1:
                    s.insert(where, bytes.charAt(random.nextInt(bytes.length())));
                    break;
                case 2:
                    s.setLength(Math.max(1, where));
                    break;
                default:
                    // a statement twice: a door, a person or a tie more
                    int begin = where - where % 5;
                    s.insert(begin, s.substring(begin, Math.min(begin + 5, s.length())));
                    break;
            }
        }
        return s.toString();
    }

    private void tell(String text) {
        for (int k = 0; k < text.length() && calls < CALLS - 3; k++) {
            int letter = text.charAt(k);
            same("feed", x.feed(letter), m.feed(letter));
        }
        same("town() of " + text, x.town(), m.town());
        same("fault() of " + text, x.fault(), m.fault());
    }

    private void rowCall() {
        int row = random.nextInt(20) == 0 ? upTo(8) : random.nextInt(3);
        int other = random.nextInt(20) == 0 ? upTo(8) : random.nextInt(3);
        int i = upTo(7);
        int j = upTo(7);
        int n = upTo(6);
        int v = random.nextInt(8) == 0 ? random.nextInt() : random.nextInt(3) - 1;
        int lane = random.nextInt(20) == 0 ? upTo(3) : random.nextInt(5) == 0 ? random.nextInt(3) : 0;
        switch (random.nextInt(10)) {
            case 0:
            case 1:
            case 2: {
                int items = random.nextInt(6) == 0 ? upTo(42) : 2 + random.nextInt(10);
                same("row", x.row(row, lane, items), m.row(row, lane, items));
                break;
            }
            case 3:
                if (random.nextInt(4) == 0) {
                    same("drop", x.drop(row), m.drop(row));
                }
                break;
            case 4:
            case 5:
                same("copy", x.copy(row, i, other, j, n), m.copy(row, i, other, j, n));
                break;
            default:
                same("set", x.set(row, i, v), m.set(row, i, v));
                break;
        }
        same("status", x.status(), m.status());
    }

    private void deed() {
        int p = person();
        int d = door();
        switch (random.nextInt(20)) {
            case 0: {
                int n = random.nextInt(4) == 0 ? upTo(25) : 1 + random.nextInt(3);
                same("days(" + n + ")", x.days(n), m.days(n));
                break;
            }
            case 1:
            case 2:
            case 3: {
                int by = random.nextInt(20) == 0 ? upTo(3) : random.nextInt(3) == 0 ? 1 : -1;
                same("gift", x.gift(p, by), m.gift(p, by));
                break;
            }
            case 4: {
                int a = room();
                int b = room();
                same("build", x.build(a, b), m.build(a, b));
                break;
            }
            case 5:
            case 6:
                same("undo", x.undo(), m.undo());
                break;
            case 7: {
                int k = upTo(1);
                if (random.nextInt(6) == 0) {
                    same("image", x.image(k), m.image(k));
                } else if (random.nextInt(8) == 0) {
                    same("restore", x.restore(k), m.restore(k));
                }
                break;
            }
            default:
                same("knock(" + p + ", " + d + ")", x.knock(p, d), m.knock(p, d));
                break;
        }
    }

    private void question() {
        int p = person();
        int o = person();
        int d = door();
        int r = room();
        int half = upTo(1);
        int row = random.nextInt(20) == 0 ? upTo(8) : random.nextInt(3);
        int i = random.nextInt(5) == 0 ? upTo(8) : random.nextInt(4);
        int n = random.nextInt(5) == 0 ? upTo(7) : 1 + random.nextInt(Math.max(1, m.count(2)));
        int what = upTo(6);
        switch (random.nextInt(22)) {
            case 0: same("person", x.person(p, what), m.person(p, what)); break;
            case 1: same("door", x.door(d, what / 2), m.door(d, what / 2)); break;
            case 2:
            case 3: same("at", x.at(p, d, what), m.at(p, d, what)); break;
            case 4: same("favour", x.favour(p, o), m.favour(p, o)); break;
            case 5:
            case 6: same("way", x.way(p, r, half), m.way(p, r, half)); break;
            case 7: same("reach", x.reach(p), m.reach(p)); break;
            case 8: same("locked", x.locked(), m.locked()); break;
            case 9:
                if (random.nextInt(3) == 0) {
                    same("gifts", x.gifts(p, d, half), m.gifts(p, d, half));
                }
                break;
            case 10: same("parade", x.parade(p, d, half), m.parade(p, d, half)); break;
            case 11: same("newDoor", x.newDoor(p, r, half), m.newDoor(p, r, half)); break;
            case 12:
            case 13: same("bents", x.bents(o, p, row, i, n, half), m.bents(o, p, row, i, n, half)); break;
            case 14:
            case 15: same("who", x.who(o, p, row, i, n), m.who(o, p, row, i, n)); break;
            case 16: {
                int of10 = upTo(10);
                same("awake", x.awake(p, d, of10, half), m.awake(p, d, of10, half));
                break;
            }
            case 17: {
                int draws = upTo(60);
                int seed = random.nextInt(9) == 0 ? upTo(60) : 1 + random.nextInt(999999);
                same("drawn", x.drawn(draws, seed, half), m.drawn(draws, seed, half));
                break;
            }
            case 18: {
                int kind = upTo(5);
                same("as", x.as(p, kind), m.as(p, kind));
                same("status", x.status(), m.status());
                break;
            }
            case 19:
                same("ask", x.ask(p, half), m.ask(p, half));
                for (int k = 0; k < 8; k++) {
                    same("trace", x.trace(k), m.trace(k));
                }
                break;
            case 20: same("kind", x.kind(p), m.kind(p)); break;
            default: {
                int which = upTo(8);
                same("count", x.count(which), m.count(which));
                break;
            }
        }
    }
}
