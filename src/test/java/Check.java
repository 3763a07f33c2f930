/** What the project's tests share: answers that are due, texts that are fed, and the last word of a test. */
final class Check {
    private static int right;
    private static int wrong;

    private Check() {
    }

    static void due(String call, long got, long want) {
        if (got == want) {
            right++;
            return;
        }
        wrong++;
        System.out.println(call + " answered " + got + ", due is " + want);
    }

    static void dueTrue(String what, boolean holds) {
        due(what, holds ? 1 : 0, 1);
    }

    /** Feeds a text, byte by byte. */
    static void feedAll(DoorVotes x, String text) {
        for (int k = 0; k < text.length(); k++) {
            x.feed(text.charAt(k));
        }
    }

    /** Feeds a text and reads it. */
    static int tell(DoorVotes x, String text) {
        feedAll(x, text);
        return x.town();
    }

    static DoorVotes townOf(String text) {
        DoorVotes x = new DoorVotes();
        int people = tell(x, text);
        dueTrue("a town is read from " + text, people > 0);
        return x;
    }

    /** All that can be asked without changing anything, but status(), as one text. */
    static String told(DoorVotes x) {
        StringBuilder all = new StringBuilder();
        for (int what = 0; what < 9; what++) {
            all.append(x.count(what)).append(' ');
        }
        for (int person = 0; person < x.count(3); person++) {
            all.append('p').append(x.kind(person)).append(' ');
            for (int what = 0; what < 6; what++) {
                all.append(x.person(person, what)).append(' ');
            }
            for (int door = 0; door < x.count(2); door++) {
                for (int what = 0; what < 7; what++) {
                    all.append(x.at(person, door, what)).append(' ');
                }
            }
        }
        for (int door = 0; door < x.count(2); door++) {
            all.append('d');
            for (int what = 0; what < 3; what++) {
                all.append(x.door(door, what)).append(' ');
            }
        }
        for (int i = 0; i < 17; i++) {
            all.append('t').append(x.trace(i)).append(' ');
        }
        return all.append('f').append(x.fault()).toString();
    }

    static void unchanged(String what, DoorVotes x, String before) {
        dueTrue(what + " changes nothing", told(x).equals(before));
    }

    static void end() {
        System.out.println(right + " answers as due, " + wrong + " not");
        if (wrong != 0 || right == 0) {
            System.exit(1);
        }
    }
}
