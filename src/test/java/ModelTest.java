import java.util.Random;
import java.util.function.ToLongFunction;

/** Random runs of calls, each answered by the class and by the model: an answer that differs is told. */
public final class ModelTest {
    private static final int CALLS = 512;
    private int wrong;
    private final StringBuilder log = new StringBuilder();
    private Random random;
    private NumberDoor door;
    private Model model;
    private int calls;

    public static void main(String[] args) {
        int runs = args.length > 0 ? Integer.parseInt(args[0]) : 400;
        long first = args.length > 1 ? Long.parseLong(args[1]) : 1;
        ModelTest test = new ModelTest();
        int[] seen = new int[8];
        for (long seed = first; seed < first + runs && test.wrong < 5; seed++) {
            test.run(seed, seen);
            test.runSearches(seed);
        }
        System.out.println(runs + " runs against the model, " + test.wrong + " wrong; faults 0 to 6: "
            + java.util.Arrays.toString(seen));
        for (int kind = 0; kind <= 6 && runs >= 400; kind++) {
            if (seen[kind] == 0) {
                System.out.println("no text with fault " + kind + " was met");
                test.wrong++;
            }
        }
        if (test.wrong != 0) {
            System.exit(1);
        }
    }

    private boolean same(String call, ToLongFunction<NumberDoor> one, ToLongFunction<Model> other) {
        calls++;
        long got = one.applyAsLong(door);
        long want = other.applyAsLong(model);
        log.append(call).append(" -> ").append(got).append('\n');
        if (got != want) {
            wrong++;
            String told = log.toString();
            System.out.println(told.substring(Math.max(0, told.length() - 4000)) + "due is " + want);
            return false;
        }
        return true;
    }

    private void run(long seed, int[] seen) {
        start(seed);
        boolean good = true;
        if (random.nextInt(10) > 0) {
            good = tellTown(random.nextInt(4) == 0);
            seen[model.faultKind]++;
        }
        while (good && calls < CALLS) {
            good = oneCall();
        }
    }

    /** Several towns of one sort on one object, and of each all that has to be searched for. */
    private void runSearches(long seed) {
        start(seed);
        boolean good = true;
        int sort = random.nextInt(3);
        for (int i = 0; i < 4 && good; i++) {
            RandomTown source = new RandomTown(random);
            String text = sort == 0 ? source.wedding() : sort == 1 ? source.crowd() : source.owing();
            log.append("text: ").append(text).append('\n');
            good = feedText(text) && same("town()", d -> d.town(), m -> m.town());
            for (int p = -1; p < 16 && good && sort == 0; p++) {
                int k = p;
                good = same("weds(" + k + ")", d -> d.weds(k), m -> m.weds(k));
            }
            for (int p = -1; p < model.people.size() && good && sort == 1; p++) {
                int k = p;
                int h = random.nextInt(13);
                good = same("placed(" + k + ")", d -> d.placed(k), m -> m.placed(k))
                    && same("may(" + k + ", " + h + ")", d -> d.may(k, h), m -> m.may(k, h));
            }
            good = good && same("struck()", d -> d.struck(), m -> m.struck());
        }
    }

    private void start(long seed) {
        random = new Random(seed);
        door = new NumberDoor();
        model = new Model();
        calls = 0;
        log.setLength(0);
        log.append("run ").append(seed).append('\n');
    }

    private boolean feedText(String text) {
        int room = (1600 - model.tape.size()) / 20 * 20;
        String cut = text.length() > room ? text.substring(0, room) : text;
        int before = model.tape.size();
        boolean good = true;
        for (int at = 0; at < cut.length() && good; at += 20) {
            int[] words = new int[5];
            for (int k = 0; k < 20; k++) {
                int c = at + k < cut.length() ? cut.charAt(at + k) : 32;
                words[k / 4] |= c << (24 - 8 * (k % 4));
            }
            good = feed(words);
        }
        int n = before + cut.length();
        return good && same("end(" + n + ")", d -> d.end(n) ? 1 : 0, m -> m.end(n) ? 1 : 0);
    }

    private boolean feed(int[] w) {
        return same("feed(..)", d -> d.feed(w[0], w[1], w[2], w[3], w[4]), m -> m.feed(w[0], w[1], w[2], w[3], w[4]));
    }

    private boolean tellTown(boolean changed) {
        RandomTown source = new RandomTown(random);
        String text = changed ? source.changed() : source.good();
        log.append("text: ").append(text).append('\n');
        return feedText(text) && same("town()", d -> d.town(), m -> m.town())
            && same("fault(0)", d -> d.fault(0), m -> m.fault(0))
            && same("fault(1)", d -> d.fault(1), m -> m.fault(1));
    }

    private boolean tellHidden() {
        int n = random.nextInt(12) == 0 ? random.nextInt(6) : 2 + random.nextInt(3);
        int most = random.nextInt(12) == 0 ? random.nextInt(30) : 1 + random.nextInt(24);
        StringBuilder bytes = new StringBuilder().append((char) n).append((char) most);
        int pairs = n * (n - 1) / 2 + (random.nextInt(15) == 0 ? random.nextInt(3) - 1 : 0);
        for (int i = 0; i < pairs; i++) {
            bytes.append((char) (random.nextInt(60) == 0 ? 2 : random.nextInt(2)));
        }
        return feedText(bytes.toString()) && same("tell()", d -> d.tell(), m -> m.tell());
    }

    private boolean takeImage() {
        if (!same("image()", d -> d.image(), m -> m.image())) {
            return false;
        }
        StringBuilder bytes = new StringBuilder();
        for (int b : model.picture) {
            bytes.append((char) b);
        }
        int sort = random.nextInt(4);
        if (sort == 1) {
            bytes.setCharAt(random.nextInt(bytes.length()), (char) random.nextInt(256));
        }
        if (sort == 2) {
            change(bytes);
        }
        if (sort == 3 && random.nextInt(3) == 0) {
            bytes.setLength(random.nextInt(bytes.length()));
        }
        return feedText(bytes.toString()) && same("on()", d -> d.on() ? 1 : 0, m -> m.on() ? 1 : 0);
    }

    /** Another image whose last byte fits, so that all else of it is looked at. */
    private void change(StringBuilder bytes) {
        int times = 1 + random.nextInt(3);
        for (int i = 0; i < times; i++) {
            int at = random.nextInt(bytes.length() - 1);
            int value = at == 0 ? 30 + random.nextInt(12) : at < 4 ? random.nextInt(3) : random.nextInt(256);
            if (at >= 4 && at % 5 == 3) {
                value = random.nextInt(14);
            }
            if (at == 3) {
                value = bytes.charAt(3);
            }
            bytes.setCharAt(at, (char) value);
        }
        int c = 73;
        for (int k = 0; k < bytes.length() - 1; k++) {
            c = (5 * c + bytes.charAt(k)) % 251;
        }
        bytes.setCharAt(bytes.length() - 1, (char) c);
    }

    private int index(int most) {
        return switch (random.nextInt(14)) {
            case 0 -> -1;
            case 1 -> most;
            case 2 -> new int[] {Integer.MIN_VALUE, Integer.MAX_VALUE, -2, most + 1, 20, 8, 100}[random.nextInt(7)];
            default -> random.nextInt(Math.max(1, most));
        };
    }

    private boolean oneCall() {
        int p = index(model.people.size());
        int q = index(model.people.size());
        int h = index(model.houses.size());
        int k = index(6);
        switch (random.nextInt(46)) {
            case 0: return random.nextInt(8) > 0 || tellTown(random.nextInt(3) == 0);
            case 1: return random.nextInt(3) > 0 || tellHidden();
            case 2: return random.nextInt(2) > 0 || takeImage();
            case 3: {
                int n = random.nextInt(3) > 0 ? index(4) : index(1600);
                return same("end(" + n + ")", d -> d.end(n) ? 1 : 0, m -> m.end(n) ? 1 : 0);
            }
            case 4: return random.nextInt(4) > 0 || feed(new int[] {random.nextInt(), 0, -1, random.nextInt(), 5});
            case 5: return random.nextInt(30) > 0 || same("town()", d -> d.town(), m -> m.town());
            case 6: return random.nextInt(20) > 0 || same("on()", d -> d.on() ? 1 : 0, m -> m.on() ? 1 : 0);
            case 7: return same("fault(" + k + ")", d -> d.fault(k), m -> m.fault(k));
            case 8: case 9: {
                int what = index(12);
                return same("has(" + what + ")", d -> d.has(what), m -> m.has(what));
            }
            case 10: {
                int kind = index(2);
                return same("letter(" + kind + ", " + h + ", " + k + ")", d -> d.letter(kind, h, k), m -> m.letter(kind, h, k));
            }
            case 11: case 12: {
                int what = index(random.nextInt(2) == 0 ? 5 : 16);
                return same("house(" + h + ", " + what + ")", d -> d.house(h, what), m -> m.house(h, what));
            }
            case 13: return same("number(" + p + ")", d -> d.number(p), m -> m.number(p));
            case 14: case 15: return same("person(" + p + ", " + k + ")", d -> d.person(p, k), m -> m.person(p, k));
            default: return oneMore(p, q, h, k);
        }
    }

    private boolean oneMore(int p, int q, int h, int k) {
        switch (random.nextInt(30)) {
            case 0: case 1: {
                int which = index(random.nextInt(2) == 0 ? 3 : 1 + model.breaches().size());
                int what = index(3);
                return same("breach(" + which + ", " + what + ")", d -> d.breach(which, what), m -> m.breach(which, what));
            }
            case 2: case 3: return same("may(" + p + ", " + h + ")", d -> d.may(p, h), m -> m.may(p, h));
            case 4: return same("placed(-1)", d -> d.placed(-1), m -> m.placed(-1));
            case 5: return same("placed(" + p + ")", d -> d.placed(p), m -> m.placed(p));
            case 6: case 7: {
                int law = random.nextInt(3) == 0 ? 8 : index(model.laws.size());
                return same("holds(" + law + ", " + p + ", " + q + ")", d -> d.holds(law, p, q), m -> m.holds(law, p, q));
            }
            case 8: case 9: case 10: {
                int to = random.nextInt(5) == 0 ? -1 : h;
                return same("move(" + p + ", " + to + ")", d -> d.move(p, to) ? 1 : 0, m -> m.move(p, to) ? 1 : 0);
            }
            case 11: {
                boolean is = random.nextBoolean();
                return same("night(" + is + ")", d -> d.night(is) ? 1 : 0, m -> m.night(is) ? 1 : 0);
            }
            case 12: return random.nextInt(2) > 0 || same("housed()", d -> d.housed(), m -> m.housed());
            case 13: {
                int n = random.nextInt(4) == 0 ? index(51) : index(4);
                return random.nextInt(3) > 0 || same("years(" + n + ")", d -> d.years(n), m -> m.years(n));
            }
            case 14: case 15: return same("undo()", d -> d.undo() ? 1 : 0, m -> m.undo() ? 1 : 0);
            case 16: {
                int s = random.nextInt(3) == 0 ? index(5) : random.nextInt();
                return same("seed(" + s + ")", d -> d.seed(s) ? 1 : 0, m -> m.seed(s) ? 1 : 0);
            }
            case 17: return same("weds(-1)", d -> d.weds(-1), m -> m.weds(-1));
            case 18: return same("weds(" + p + ")", d -> d.weds(p), m -> m.weds(p));
            default: return lastOnes(p, q, h, k);
        }
    }

    private boolean lastOnes(int p, int q, int h, int k) {
        switch (random.nextInt(14)) {
            case 0: case 1: return same("parts(" + p + ", " + k + ")", d -> d.parts(p, k), m -> m.parts(p, k));
            case 2: {
                int which = index(2);
                return same("friends(" + which + ")", d -> d.friends(which), m -> m.friends(which));
            }
            case 3: return same("factor(" + p + ", " + q + ")", d -> d.factor(p, q), m -> m.factor(p, q));
            case 4: return same("quarrel(" + k + ")", d -> d.quarrel(k), m -> m.quarrel(k));
            case 5: {
                int by = random.nextInt(5) == 0 ? index(100) : random.nextInt(13);
                return same("twins(" + by + ", " + p + ")", d -> d.twins(by, p), m -> m.twins(by, p));
            }
            case 6: case 7: {
                int street = index(model.streets.size());
                int what = random.nextInt(3) == 0 ? 19 + random.nextInt(4) : index(12);
                return same("sum(" + street + ", " + what + ")", d -> d.sum(street, what), m -> m.sum(street, what));
            }
            case 8: {
                int place = random.nextInt(3) == 0 ? -1 : index(20);
                return same("rent(" + h + ", " + place + ")", d -> d.rent(h, place), m -> m.rent(h, place));
            }
            case 9: return same("net(" + h + ")", d -> d.net(h), m -> m.net(h));
            case 10: return same("struck()", d -> d.struck(), m -> m.struck());
            case 11: return same("hidden(" + k + ")", d -> d.hidden(k), m -> m.hidden(k));
            case 12: {
                int at = index(model.picture.length);
                return same("octet(" + at + ")", d -> d.octet(at), m -> m.octet(at));
            }
            default: return same("status(" + k + ")", d -> d.status(k), m -> m.status(k));
        }
    }
}
