import java.io.IOException;
import java.io.UncheckedIOException;
import java.nio.file.Files;
import java.nio.file.Path;
import java.util.Set;
import java.util.TreeSet;
import java.util.function.Supplier;
import java.util.function.ToLongFunction;

/** What the boundary tests share: the sentence under test, towns out of texts, and all that can be asked of an object. */
final class Edge {
    static final int NONE = NumberDoor.NONE;
    static final int NOBODY = NumberDoor.NOBODY;
    /** All ahead of promise 1, the terms among it. */
    static final int TERMS = 0;
    /** Numbers that are no index, no kind and no count of anything. */
    static final int[] WILD = {Integer.MIN_VALUE, Integer.MIN_VALUE + 1, NOBODY, -65536, -101, -2, 1601, 65536, 1000000000,
        Integer.MAX_VALUE - 1, Integer.MAX_VALUE};

    private static final String DOCUMENT = read();
    private static final Set<Integer> SECTIONS = new TreeSet<>();
    private static String sentence = "nothing yet";
    private static int sentences = 0;
    private static int asked = 0;
    private static int wrong = 0;

    private Edge() { }

    private static String read() {
        try {
            return Files.readString(Path.of("../shared/DOC.md")).replaceAll("\\s+", " ");
        } catch (IOException failed) {
            throw new UncheckedIOException(failed);
        }
    }

    /** From here on this sentence is tested. It has to stand in the document, so that it is found again. */
    static void says(int promise, String quote) {
        String from = promise == TERMS ? "# NumberDoor" : "## Promise " + promise + ": ";
        String section = DOCUMENT.substring(DOCUMENT.indexOf(from));
        int end = promise == TERMS ? section.indexOf("## Promise 1: ") : section.indexOf(" ## ", 3);
        sentence = (promise == TERMS ? "terms" : "promise " + promise) + " \"" + quote + "\"";
        if (!section.substring(0, end).contains(quote)) {
            fail("does not stand there");
        }
        SECTIONS.add(promise);
        sentences++;
    }

    private static void fail(String told) {
        wrong++;
        System.out.println(sentence + ": " + told);
    }

    static void due(String what, long got, long want) {
        asked++;
        if (got != want) {
            fail(what + " answered " + got + ", due is " + want);
        }
    }

    static void due(String what, boolean got, boolean want) {
        due(what, got ? 1 : 0, want ? 1 : 0);
    }

    /** Each promise from first to last must have had a sentence of its own. */
    static void finish(int first, int last) {
        for (int promise = first; promise <= last; promise++) {
            if (!SECTIONS.contains(promise)) {
                sentence = "promise " + promise;
                fail("no sentence of it is tested");
            }
        }
        System.out.println(sentences + " sentences, " + asked + " answers asked, " + wrong + " wrong");
        if (wrong != 0) {
            System.exit(1);
        }
    }

    // ---- texts and towns

    /** The tape has these bytes alone. */
    static void put(NumberDoor x, String bytes) {
        x.end(0);
        for (int at = 0; at < bytes.length(); at += 20) {
            int[] words = new int[5];
            for (int k = 0; k < 20; k++) {
                int c = at + k < bytes.length() ? bytes.charAt(at + k) : 32;
                words[k / 4] |= c << (24 - 8 * (k % 4));
            }
            x.feed(words[0], words[1], words[2], words[3], words[4]);
        }
        if (!x.end(bytes.length())) {
            fail("the test's own bytes did not come onto the tape");
        }
    }

    static NumberDoor town(String text) {
        NumberDoor x = new NumberDoor();
        put(x, text);
        if (x.town() == NONE) {
            fail("the text has fault " + x.fault(0) + " at " + x.fault(1) + ": " + text);
        }
        return x;
    }

    static void good(String text, int statements) {
        NumberDoor x = new NumberDoor();
        put(x, text);
        due("town() of " + text, x.town(), statements);
        due("fault(0) of " + text, x.fault(0), 0);
        due("fault(1) of " + text, x.fault(1), NONE);
    }

    static void faulty(String text, int kind, int place) {
        NumberDoor x = new NumberDoor();
        put(x, text);
        due("town() of " + text, x.town(), NONE);
        due("fault(0) of " + text, x.fault(0), kind);
        due("fault(1) of " + text, x.fault(1), place);
    }

    /** Of a text whose fault is at the sign ^, which is left out. */
    static void faultAt(int kind, String marked) {
        int place = marked.indexOf('^');
        faulty(marked.substring(0, place) + marked.substring(place + 1), kind, place);
    }

    /** A text many times: in it # is 1, 2, .., and $ is a, b, .. */
    static String times(String told, int many) {
        StringBuilder all = new StringBuilder();
        for (int i = 0; i < many; i++) {
            all.append(told.replace("#", Integer.toString(i + 1)).replace("$", Character.toString((char) ('a' + i))));
        }
        return all.toString();
    }

    /** An image of these, each number with its house and 1, with the last byte that fits. */
    static String image(int year, int night, int... told) {
        StringBuilder all = new StringBuilder();
        all.append((char) (year >> 8 & 255)).append((char) (year & 255)).append((char) night).append((char) (told.length / 2));
        for (int i = 0; i < told.length; i += 2) {
            for (int shift = 24; shift >= 0; shift -= 8) {
                all.append((char) (told[i] >>> shift & 255));
            }
            all.append((char) told[i + 1]);
        }
        return all.append((char) checkOf(all)).toString();
    }

    static int checkOf(CharSequence ahead) {
        int c = 73;
        for (int k = 0; k < ahead.length(); k++) {
            c = (5 * c + ahead.charAt(k)) % 251;
        }
        return c;
    }

    /** A small town in which something of all sorts stands, by night, three ACTS done, a tape of seven bytes. */
    static NumberDoor busy() {
        NumberDoor x = town("street s;house a of s rooms 2;house b of s rooms 1;number 6 in a;number -4 in b;number 10;"
            + "law beside gcd(me,other)=1;law within me<other;wed all;owes a b 7;fire 30;");
        x.seed(77);
        put(x, "\2\6\1");
        x.tell();
        x.image();
        x.move(0, NONE);
        x.night(true);
        x.move(0, 0);
        put(x, "fire 7;");
        return x;
    }

    // ---- draws

    /** The seed behind so many draws. */
    static int seedAfter(long seed, int draws) {
        long x = seed;
        for (int i = 0; i < draws; i++) {
            x = Math.floorMod(1103515245L * x + 12345L, 2147483648L);
        }
        return (int) x;
    }

    /** The draw number k (from 1 on) of m. */
    static int draw(long seed, int k, int m) {
        return seedAfter(seed, k) / 64 % m;
    }

    // ---- all that can be asked

    /** What can be asked of an object but what was refused, its latest fault and its tape: some 120 calls of a small town. */
    static String all(NumberDoor x) {
        StringBuilder told = new StringBuilder();
        for (int what = 0; what <= 11; what++) {
            told.append(" has ").append(what).append(':').append(x.has(what));
        }
        for (int k = 0; k < 3; k++) {
            told.append(" hidden ").append(x.hidden(k));
        }
        told.append(" octets ");
        for (int k = 0; x.octet(k) != NONE; k++) {
            told.append(x.octet(k)).append(',');
        }
        return told.append(allOfTown(x)).toString();
    }

    /** The same but for ACTS, the seed, HIDDEN ones and the image: what a text, its people and the day tell. */
    static String allOfTown(NumberDoor x) {
        StringBuilder told = new StringBuilder();
        for (int what = 0; what <= 9; what++) {
            told.append(" has ").append(what).append(':').append(x.has(what));
        }
        for (int street = 0; street < x.has(0); street++) {
            told.append(" street ").append(x.letter(0, street, 0)).append(" sum ").append(x.sum(street, 0)).append(x.sum(street, 20));
        }
        for (int house = 0; house < x.has(1); house++) {
            told.append(" house ").append(x.letter(1, house, 0)).append(" net ").append(x.net(house)).append(':');
            for (int what = 0; what < 12; what += what == 4 ? 6 : 1) {
                told.append(x.house(house, what)).append(',');
            }
            told.append(" rent ").append(x.rent(house, 0));
        }
        for (int person = 0; person < x.has(3); person++) {
            told.append(" number ").append(x.number(person)).append(':');
            for (int what = 0; what < 5; what++) {
                told.append(x.person(person, what)).append(',');
            }
            told.append(x.holds(8, person, 0)).append(x.holds(0, person, 0)).append(x.may(person, 0));
            told.append(" placed ").append(x.placed(person)).append(" weds ").append(x.weds(person));
            told.append(" parts ").append(x.parts(person, NONE)).append(x.parts(person, 0));
        }
        told.append(" placed ").append(x.placed(NONE)).append(" weds ").append(x.weds(NONE)).append(" struck ").append(x.struck());
        told.append(" friends ").append(x.friends(0)).append(" quarrel ").append(x.quarrel(0)).append(" twins ").append(x.twins(7, NONE));
        return told.append(" breach ").append(x.breach(1, 0)).append(x.breach(1, 1)).append(x.breach(1, 2)).toString();
    }

    static void same(String what, String got, String want) {
        asked++;
        if (!got.equals(want)) {
            fail(what + " is\n  " + got + "\nbut is to be\n  " + want);
        }
    }

    /** A call that is refused: it answers so, is counted in its place, leaves so much of the tape, and changes nothing else. */
    static void refused(String call, Supplier<NumberDoor> make, ToLongFunction<NumberDoor> ask, long answer, int sort, int tape) {
        NumberDoor x = make.get();
        String before = all(x);
        int[] counts = new int[6];
        for (int what = 0; what < 6; what++) {
            counts[what] = x.status(what);
        }
        due(call, ask.applyAsLong(x), answer);
        counts[sort]++;
        for (int what = 0; what < 6; what++) {
            due("behind " + call + " status(" + what + ")", x.status(what), counts[what]);
        }
        same("what stands behind " + call, all(x), before);
        due("behind " + call + " end(" + (tape + 1) + ")", x.end(tape + 1), false);
        due("behind " + call + " end(" + tape + ")", x.end(tape), true);
    }
}
