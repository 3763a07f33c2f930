import java.util.function.IntUnaryOperator;

/** What the project's tests share: answers that are due, texts that are fed, and the last word of a test. */
final class Check {
    /** DOOR 0 is open to 0, and shut to 1, however 2 is bent: by both it is seen what an ITEM is. */
    static final String PROBES = "h2,0;d0,1;f0,3;p0,3;p0,3;u0,1;";
    /** An ITEM that is none of 1, 0 and -1. */
    static final int OTHER = 9;

    private static int right;
    private static int wrong;
    private static String sentence = "";

    private Check() {
    }

    static void due(String call, long got, long want) {
        if (got == want) {
            right++;
            return;
        }
        wrong++;
        System.out.println(sentence + call + " answered " + got + ", due is " + want);
    }

    /** What is due from here on is due by these words of a promise of the document, or of its terms (0). */
    static void sentence(int promise, String words) {
        sentence = "";
        dueTrue("promise " + promise + " says: " + words, Document.says(promise, words));
        sentence = promise + " '" + words + "': ";
    }

    static void dueTrue(String what, boolean holds) {
        due(what, holds ? 1 : 0, 1);
    }

    /** A number from least to most is taken, one beyond them is BAD, however far. */
    static void bounds(String call, IntUnaryOperator answer, int least, int most) {
        for (int v : new int[] {least, most}) {
            dueTrue(call + " of " + v + " is not BAD", answer.applyAsInt(v) != DoorVotes.BAD);
        }
        for (int v : new int[] {least - 1, most + 1, Integer.MIN_VALUE, Integer.MAX_VALUE}) {
            due(call + " of " + v, answer.applyAsInt(v), DoorVotes.BAD);
        }
    }

    /** What an ITEM is: 1, 0, -1 or OTHER, in a TOWN that is told as PROBES. */
    static int item(DoorVotes x, int row, int i) {
        boolean asShut = x.bents(2, 1, row, i, 1, 0) == 7;
        boolean asOpen = x.bents(2, 0, row, i, 1, 0) == 7;
        return asShut ? asOpen ? -1 : 0 : asOpen ? 1 : OTHER;
    }

    static void items(String when, DoorVotes x, int row, int... want) {
        for (int i = 0; i < want.length; i++) {
            due(when + ": item " + i + " of row " + row, item(x, row, i), want[i]);
        }
        due(when + ": behind row " + row, x.bents(2, 1, row, want.length, 1, 0), -1000012);
    }

    /** Feeds a text, byte by byte. */
    static void feedAll(DoorVotes x, String text) {
        for (int k = 0; k < text.length(); k++) {
            x.feed(text.charAt(k));
        }
    }

    /** Feeds a text and reads it. */
    static int tell(DoorVotes x, String text) {
        feedAll(x, text);
        return x.town();
    }

    static DoorVotes townOf(String text) {
        DoorVotes x = new DoorVotes();
        int people = tell(x, text);
        dueTrue("a town is read from " + text, people > 0);
        return x;
    }

    /** All that can be asked without changing anything, but status(), as one text. */
    static String told(DoorVotes x) {
        StringBuilder all = new StringBuilder();
        for (int what = 0; what < 9; what++) {
            all.append(x.count(what)).append(' ');
        }
        for (int person = 0; person < x.count(3); person++) {
            all.append('p').append(x.kind(person)).append(' ');
            for (int what = 0; what < 6; what++) {
                all.append(x.person(person, what)).append(' ');
            }
            for (int door = 0; door < x.count(2); door++) {
                for (int what = 0; what < 7; what++) {
                    all.append(x.at(person, door, what)).append(' ');
                }
            }
        }
        for (int door = 0; door < x.count(2); door++) {
            all.append('d');
            for (int what = 0; what < 3; what++) {
                all.append(x.door(door, what)).append(' ');
            }
        }
        for (int i = 0; i < 17; i++) {
            all.append('t').append(x.trace(i)).append(' ');
        }
        return all.append('f').append(x.fault()).toString();
    }

    static void unchanged(String what, DoorVotes x, String before) {
        dueTrue(what + " changes nothing", told(x).equals(before));
    }

    static void end() {
        System.out.println(right + " answers as due, " + wrong + " not");
        if (wrong != 0 || right == 0) {
            System.exit(1);
        }
    }
}
