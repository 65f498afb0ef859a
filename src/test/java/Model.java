import java.math.BigInteger;
import java.util.ArrayDeque;
import java.util.ArrayList;
import java.util.Arrays;
import java.util.Collections;
import java.util.Deque;
import java.util.HashMap;
import java.util.HashSet;
import java.util.List;
import java.util.Map;
import java.util.Set;
import java.util.TreeSet;

/** The document once more, by the shortest way and without a thought of speed, for random runs to compare with. */
final class Model {
    static final int NONE = -1;
    static final int NOBODY = -1000000000;

    /** A test or a sum: of the one who is asked, and of the other one's number. */
    interface Rule {
        int of(Model town, int me, int other);
    }

    record House(String name, int street, int rooms, int place) { }

    record Law(String kind, Rule test) { }

    static final class One implements Cloneable {
        int number;
        int home;

        One(int number, int home) {
            this.number = number;
            this.home = home;
        }
    }

    record State(int year, boolean night, List<One> people) { }

    record Breach(int law, int me, int other) { }

    static final class Fault extends RuntimeException {
        private static final long serialVersionUID = 1L;
        final int kind;
        final int place;

        Fault(int kind, int place) {
            super("fault " + kind + " at " + place, null, false, false);
            this.kind = kind;
            this.place = place;
        }
    }

    List<Integer> tape = new ArrayList<>();
    List<String> streets = new ArrayList<>();
    List<House> houses = new ArrayList<>();
    List<Set<Integer>> lanes = new ArrayList<>();
    List<int[]> debts = new ArrayList<>();
    List<Law> laws = new ArrayList<>();
    Rule wed;
    int fire;
    int statements;

    int year;
    boolean night;
    List<One> people = new ArrayList<>();
    Deque<State> acts = new ArrayDeque<>();
    long x = 1;
    int faultKind;
    int faultPlace = NONE;
    List<Integer> told;
    int[] leastRow;
    int[] picture = new int[0];
    int[] refused = new int[6];

    // ---- the tape

    int feed(int a, int b, int c, int d, int e) {
        if (tape.size() + 20 > 1600) {
            refused[0]++;
            return NONE;
        }
        for (int word : new int[] {a, b, c, d, e}) {
            for (byte part : BigInteger.valueOf((word & 0xffffffffL) | 1L << 32).toByteArray()) {
                tape.add(part & 255);
            }
            tape.remove(tape.size() - 5);
        }
        return tape.size();
    }

    boolean end(int n) {
        if (n < 0 || n > tape.size()) {
            refused[0]++;
            return false;
        }
        tape = new ArrayList<>(tape.subList(0, n));
        return true;
    }

    int town() {
        List<Integer> text = tape;
        tape = new ArrayList<>();
        ModelReader read = new ModelReader(text);
        try {
            read.all();
        } catch (Fault fault) {
            faultKind = fault.kind;
            faultPlace = fault.place;
            refused[1]++;
            return NONE;
        }
        Model t = read.town;
        streets = t.streets;
        houses = t.houses;
        lanes = t.lanes;
        debts = t.debts;
        laws = t.laws;
        wed = t.wed;
        fire = t.fire;
        people = t.people;
        year = 0;
        night = false;
        acts.clear();
        leastRow = null;
        faultKind = 0;
        faultPlace = NONE;
        return t.statements;
    }

    int fault(int what) {
        return what == 0 ? faultKind : what == 1 ? faultPlace : NONE;
    }

    // ---- what there is

    boolean neighbours(int a, int b) {
        House p = houses.get(a);
        House q = houses.get(b);
        boolean row = p.street == q.street && Math.abs(p.place - q.place) == 1;
        return row || lanes.contains(Set.of(a, b));
    }

    List<Integer> dwellers(int house) {
        List<Integer> found = new ArrayList<>();
        for (int i = 0; i < people.size(); i++) {
            if (people.get(i).home == house) {
                found.add(i);
            }
        }
        return found;
    }

    boolean isHouse(int h) {
        return h >= 0 && h < houses.size();
    }

    boolean isPerson(int p) {
        return p >= 0 && p < people.size();
    }

    int has(int what) {
        int[] all = {streets.size(), houses.size(), lanes.size(), people.size(), dwellers(NONE).size(), laws.size(),
            debts.size(), breaches().size(), year, night ? 1 : 0, acts.size(), (int) x};
        return what >= 0 && what < all.length ? all[what] : NONE;
    }

    int letter(int kind, int which, int k) {
        List<String> names = new ArrayList<>();
        if (kind == 0) {
            names = streets;
        } else if (kind == 1) {
            for (House h : houses) {
                names.add(h.name);
            }
        }
        if (which < 0 || which >= names.size() || k < 0 || k > 5) {
            return NONE;
        }
        String name = names.get(which);
        return k < name.length() ? name.charAt(k) - 'a' + 1 : 0;
    }

    int house(int h, int what) {
        if (!isHouse(h)) {
            return NONE;
        }
        House asked = houses.get(h);
        List<Integer> in = dwellers(h);
        if (what >= 10) {
            return what - 10 < in.size() ? in.get(what - 10) : NONE;
        }
        int bits = 0;
        for (int g = 0; g < houses.size(); g++) {
            if (g != h && neighbours(g, h)) {
                bits += 1 << g;
            }
        }
        return switch (what) {
            case 0 -> asked.street;
            case 1 -> asked.rooms;
            case 2 -> in.size();
            case 3 -> asked.place;
            case 4 -> bits;
            default -> NONE;
        };
    }

    int number(int p) {
        return isPerson(p) ? people.get(p).number : NOBODY;
    }

    int size(int p) {
        return Math.abs(people.get(p).number);
    }

    int person(int p, int what) {
        if (!isPerson(p)) {
            return NONE;
        }
        int in = 0;
        for (Breach b : breaches()) {
            if (b.me == p || b.other == p) {
                in++;
            }
        }
        int foes = 0;
        for (int[] pair : quarrels()) {
            if (pair[0] == p || pair[1] == p) {
                foes++;
            }
        }
        return switch (what) {
            case 0 -> people.get(p).home;
            case 1 -> in;
            case 2 -> foes;
            case 3 -> BigInteger.valueOf(size(p)).isProbablePrime(40) ? 1 : 0;
            case 4 -> partsOf(size(p)) == size(p) ? 1 : 0;
            default -> NONE;
        };
    }

    // ---- laws

    List<Breach> breaches() {
        List<Breach> found = new ArrayList<>();
        for (int l = 0; l < laws.size(); l++) {
            Law law = laws.get(l);
            for (int me = 0; me < people.size(); me++) {
                int mine = people.get(me).home;
                if (mine == NONE) {
                    continue;
                }
                if (law.kind.equals("each")) {
                    if (law.test.of(this, me, 0) == 0) {
                        found.add(new Breach(l, me, NONE));
                    }
                    continue;
                }
                for (int other = 0; other < people.size(); other++) {
                    int his = people.get(other).home;
                    if (other == me || his == NONE) {
                        continue;
                    }
                    boolean asked = law.kind.equals("within") ? mine == his : mine != his && neighbours(mine, his);
                    if (asked && law.test.of(this, me, people.get(other).number) == 0) {
                        found.add(new Breach(l, me, other));
                    }
                }
            }
        }
        return found;
    }

    int breach(int k, int what) {
        List<Breach> all = breaches();
        if (k < 0 || k >= all.size()) {
            return NONE;
        }
        Breach b = all.get(k);
        return what == 0 ? b.law : what == 1 ? b.me : what == 2 ? b.other : NONE;
    }

    boolean mayLive(int p, int h) {
        One one = people.get(p);
        if (one.home == h || dwellers(h).size() >= houses.get(h).rooms) {
            return false;
        }
        int before = one.home;
        one.home = h;
        boolean good = true;
        for (Breach b : breaches()) {
            good &= b.me != p && b.other != p;
        }
        one.home = before;
        return good;
    }

    int may(int p, int h) {
        return !isPerson(p) || !isHouse(h) ? NONE : mayLive(p, h) ? 1 : 0;
    }

    /** Every way to place those who wait, as rows; the best lawful one by count, then by order. */
    int[] bestPlaces() {
        List<Integer> wait = dwellers(NONE);
        if (wait.size() > 3) {
            return null;
        }
        int base = houses.size() + 1;
        int ways = (int) Math.pow(base, wait.size());
        int[] best = null;
        int most = -1;
        for (int way = 0; way < ways; way++) {
            int[] row = new int[wait.size()];
            int rest = way;
            int given = 0;
            for (int i = row.length - 1; i >= 0; i--) {
                row[i] = rest % base;
                rest /= base;
                given += row[i] < houses.size() ? 1 : 0;
            }
            if (given <= most) {
                continue;
            }
            for (int i = 0; i < row.length; i++) {
                people.get(wait.get(i)).home = row[i] < houses.size() ? row[i] : NONE;
            }
            boolean fits = true;
            for (int h = 0; h < houses.size(); h++) {
                fits &= dwellers(h).size() <= houses.get(h).rooms;
            }
            if (fits && breaches().isEmpty()) {
                most = given;
                best = row;
            }
            for (int p : wait) {
                people.get(p).home = NONE;
            }
        }
        return best;
    }

    int placed(int k) {
        List<Integer> wait = dwellers(NONE);
        int[] best = bestPlaces();
        if (best == null) {
            return NONE;
        }
        if (k == NONE) {
            int given = 0;
            for (int h : best) {
                given += h < houses.size() ? 1 : 0;
            }
            return given;
        }
        int at = wait.indexOf(k);
        return at < 0 ? NONE : best[at] < houses.size() ? best[at] : 20;
    }

    int holds(int law, int me, int other) {
        if (!isPerson(me) || !isPerson(other)) {
            return NONE;
        }
        Rule test = law == 8 ? wed : law >= 0 && law < laws.size() ? laws.get(law).test : null;
        return test == null ? NONE : test.of(this, me, people.get(other).number);
    }

    // ---- acts

    void keep() {
        List<One> copy = new ArrayList<>();
        for (One one : people) {
            copy.add(new One(one.number, one.home));
        }
        acts.addLast(new State(year, night, copy));
        if (acts.size() > 20) {
            acts.removeFirst();
        }
    }

    boolean move(int p, int h) {
        boolean good = isPerson(p) && (h == NONE || isHouse(h));
        good = good && people.get(p).home != h && (people.get(p).number > 0 || night);
        good = good && (h == NONE || dwellers(h).size() < houses.get(h).rooms);
        if (!good) {
            refused[2]++;
            return false;
        }
        keep();
        people.get(p).home = h;
        return true;
    }

    boolean night(boolean is) {
        if (night == is) {
            refused[2]++;
            return false;
        }
        keep();
        night = is;
        return true;
    }

    int housed() {
        keep();
        int moved = 0;
        for (int p : dwellers(NONE)) {
            for (int h = 0; h < houses.size() && (night || people.get(p).number > 0); h++) {
                if (mayLive(p, h)) {
                    people.get(p).home = h;
                    moved++;
                    break;
                }
            }
        }
        return moved;
    }

    int draw(int m) {
        x = BigInteger.valueOf(x).multiply(BigInteger.valueOf(1103515245)).add(BigInteger.valueOf(12345))
            .mod(BigInteger.TWO.pow(31)).longValue();
        return (int) (x / 64 % m);
    }

    boolean comes(long number, int home) {
        boolean there = false;
        for (One one : people) {
            there |= one.number == number;
        }
        if (there || number == 0 || number > 999999999 || people.size() == 16) {
            return false;
        }
        people.add(new One((int) number, home));
        return true;
    }

    int years(int n) {
        if (n < 1 || n > 50 || year + n > 9999) {
            refused[3]++;
            return NONE;
        }
        keep();
        int came = 0;
        for (int i = 0; i < n; i++) {
            if (!houses.isEmpty()) {
                int burning = draw(houses.size());
                if (draw(100) < fire) {
                    for (int p : dwellers(burning)) {
                        people.get(p).home = NONE;
                    }
                }
                int h = draw(houses.size());
                List<Integer> in = dwellers(h);
                if (in.size() >= 2 && in.size() < houses.get(h).rooms) {
                    long child = Math.abs((long) people.get(in.get(0)).number - people.get(in.get(1)).number);
                    came += comes(child, h) ? 1 : 0;
                }
            }
            came += comes(draw(1000) + 1, NONE) ? 1 : 0;
            year++;
        }
        return came;
    }

    boolean undo() {
        if (acts.isEmpty()) {
            refused[4]++;
            return false;
        }
        State before = acts.removeLast();
        year = before.year;
        night = before.night;
        people = before.people;
        return true;
    }

    boolean seed(int seed) {
        if (seed < 0) {
            refused[5]++;
            return false;
        }
        x = seed;
        return true;
    }

    // ---- weddings, factors

    boolean mayWed(int a, int b) {
        return a != b && wed != null && wed.of(this, a, people.get(b).number) == 1
            && wed.of(this, b, people.get(a).number) == 1;
    }

    int mostCouples(int free, Map<Integer, Integer> known) {
        if (free == 0) {
            return 0;
        }
        Integer kept = known.get(free);
        if (kept != null) {
            return kept;
        }
        int a = Integer.numberOfTrailingZeros(free);
        int rest = free & ~(1 << a);
        int most = mostCouples(rest, known);
        for (int b = a + 1; b < people.size(); b++) {
            if ((rest >> b & 1) == 1 && wedMatrix[a][b]) {
                most = Math.max(most, 1 + mostCouples(rest & ~(1 << b), known));
            }
        }
        known.put(free, most);
        return most;
    }

    private boolean[][] wedMatrix;

    int weds(int k) {
        if (k != NONE && !isPerson(k)) {
            return NONE;
        }
        int n = people.size();
        wedMatrix = new boolean[n][n];
        for (int a = 0; a < n; a++) {
            for (int b = 0; b < n; b++) {
                wedMatrix[a][b] = mayWed(a, b);
            }
        }
        int[] partner = new int[n];
        Arrays.fill(partner, 20);
        Map<Integer, Integer> known = new HashMap<>();
        int free = (1 << n) - 1;
        int left = mostCouples(free, known);
        int total = left;
        for (int a = 0; a < n; a++) {
            if ((free >> a & 1) == 0) {
                continue;
            }
            free &= ~(1 << a);
            for (int b = a + 1; b < n; b++) {
                if ((free >> b & 1) == 1 && wedMatrix[a][b] && 1 + mostCouples(free & ~(1 << b), known) == left) {
                    partner[a] = b;
                    partner[b] = a;
                    free &= ~(1 << b);
                    left--;
                    break;
                }
            }
        }
        return k == NONE ? total : partner[k];
    }

    private static final Map<Integer, Long> PARTS = new HashMap<>();

    static long partsOf(int n) {
        Long kept = PARTS.get(n);
        if (kept != null) {
            return kept;
        }
        long all = 0;
        for (int d = 1; (long) d * d <= n; d++) {
            if (n % d == 0) {
                all += d;
                all += d != n / d ? n / d : 0;
            }
        }
        PARTS.put(n, all - n);
        return all - n;
    }

    static int digitOf(String shown, int k) {
        if (k == NONE) {
            return shown.length();
        }
        return k >= 0 && k < shown.length() ? shown.charAt(shown.length() - 1 - k) - '0' : NONE;
    }

    int parts(int p, int k) {
        return isPerson(p) ? digitOf(Long.toString(partsOf(size(p))), k) : NONE;
    }

    static int pairAt(List<int[]> pairs, int k) {
        return k >= 0 && k < pairs.size() ? 100 * pairs.get(k)[0] + pairs.get(k)[1] : NONE;
    }

    int friends(int k) {
        List<int[]> pairs = new ArrayList<>();
        for (int a = 0; a < people.size(); a++) {
            for (int b = a + 1; b < people.size(); b++) {
                if (size(a) != size(b) && partsOf(size(a)) == size(b) && partsOf(size(b)) == size(a)) {
                    pairs.add(new int[] {a, b});
                }
            }
        }
        return pairAt(pairs, k);
    }

    static int gcd(int a, int b) {
        return BigInteger.valueOf(a).gcd(BigInteger.valueOf(b)).intValue();
    }

    int factor(int a, int b) {
        return isPerson(a) && isPerson(b) ? gcd(number(a), number(b)) : NONE;
    }

    List<int[]> quarrels() {
        List<int[]> pairs = new ArrayList<>();
        for (int a = 0; a < people.size(); a++) {
            for (int b = a + 1; b < people.size(); b++) {
                int p = people.get(a).home;
                int q = people.get(b).home;
                if (p != NONE && q != NONE && (p == q || neighbours(p, q)) && gcd(number(a), number(b)) > 1) {
                    pairs.add(new int[] {a, b});
                }
            }
        }
        return pairs;
    }

    int quarrel(int k) {
        return pairAt(quarrels(), k);
    }

    int twins(int m, int p) {
        if (m < 2 || m > 99 || (p != NONE && !isPerson(p))) {
            return NONE;
        }
        Map<Integer, Integer> many = new HashMap<>();
        for (One one : people) {
            many.merge((one.number % m + m) % m, 1, Integer::sum);
        }
        return p == NONE ? many.size() : many.get((number(p) % m + m) % m) - 1;
    }

    // ---- sums, rents, debts

    int sum(int street, int what) {
        if (street < 0 || street >= streets.size()) {
            return NONE;
        }
        long total = 0;
        int carries = 0;
        int longest = 0;
        for (int h = 0; h < houses.size(); h++) {
            if (houses.get(h).street != street) {
                continue;
            }
            for (int p : dwellers(h)) {
                int run = 0;
                // A place carries just if what stands at it and behind it, of both, comes to ten times its worth.
                for (long worth = 1; worth < 1000000000000L; worth *= 10) {
                    boolean carry = total % (10 * worth) + size(p) % (10 * worth) >= 10 * worth;
                    run = carry ? run + 1 : 0;
                    carries += carry ? 1 : 0;
                    longest = Math.max(longest, run);
                }
                total += size(p);
            }
        }
        if (what == 20 || what == 21) {
            return what == 20 ? carries : longest;
        }
        return digitOf(Long.toString(total), what);
    }

    int rent(int h, int k) {
        if (!isHouse(h)) {
            return NONE;
        }
        BigInteger all = dwellers(h).isEmpty() ? BigInteger.ZERO : BigInteger.ONE;
        for (int p : dwellers(h)) {
            all = all.multiply(BigInteger.valueOf(size(p)));
        }
        return digitOf(all.toString(), k);
    }

    int net(int h) {
        if (!isHouse(h)) {
            return NOBODY;
        }
        int total = 0;
        for (int[] debt : debts) {
            total += debt[1] == h ? debt[2] : 0;
            total -= debt[0] == h ? debt[2] : 0;
        }
        return total;
    }

    int struck() {
        List<Integer> nets = new ArrayList<>();
        for (int h = 0; h < houses.size(); h++) {
            if (net(h) != 0) {
                nets.add(net(h));
            }
        }
        int[] best = {nets.size()};
        settle(nets, 0, 0, best);
        return best[0];
    }

    /** Some fewest settlement lets the first one who is not settled pay or be paid whole by one of the other sort. */
    private static void settle(List<Integer> nets, int from, int paid, int[] best) {
        int at = from;
        while (at < nets.size() && nets.get(at) == 0) {
            at++;
        }
        if (at == nets.size()) {
            best[0] = Math.min(best[0], paid);
            return;
        }
        if (paid + 1 >= best[0]) {
            return;
        }
        int mine = nets.get(at);
        Set<Integer> seen = new HashSet<>();
        for (int i = at + 1; i < nets.size(); i++) {
            int his = nets.get(i);
            if ((mine > 0) != (his > 0) && his != 0 && seen.add(his)) {
                nets.set(i, his + mine);
                settle(nets, at + 1, paid + 1, best);
                nets.set(i, his);
            }
        }
    }

    // ---- hidden ones

    int tell() {
        List<Integer> t = tape;
        tape = new ArrayList<>();
        int n = t.isEmpty() ? 0 : t.get(0);
        int most = t.size() < 2 ? 0 : t.get(1);
        boolean good = n >= 2 && n <= 4 && most >= 1 && most <= 24 && t.size() == 2 + n * (n - 1) / 2;
        for (int i = 2; i < t.size(); i++) {
            good &= t.get(i) <= 1;
        }
        if (!good) {
            refused[5]++;
            return NONE;
        }
        leastRow = null;
        int rows = 0;
        int ways = (int) Math.pow(most, n);
        for (int way = 0; way < ways; way++) {
            int[] row = new int[n];
            int rest = way;
            for (int i = n - 1; i >= 0; i--) {
                row[i] = rest % most + 1;
                rest /= most;
            }
            int at = 2;
            boolean fits = true;
            for (int i = 0; i < n && fits; i++) {
                for (int j = i + 1; j < n; j++) {
                    fits &= (SMALL[row[i]][row[j]] > 1) == (t.get(at) == 1);
                    at++;
                }
            }
            if (fits) {
                rows++;
                leastRow = leastRow == null ? row : leastRow;
            }
        }
        return rows;
    }

    private static final int[][] SMALL = new int[25][25];

    static {
        for (int i = 1; i < 25; i++) {
            for (int j = 1; j < 25; j++) {
                SMALL[i][j] = gcd(i, j);
            }
        }
    }

    int hidden(int k) {
        return leastRow != null && k >= 0 && k < leastRow.length ? leastRow[k] : NONE;
    }

    // ---- images, refusals

    int image() {
        List<Integer> bytes = new ArrayList<>(List.of(year / 256, year % 256, night ? 1 : 0, people.size()));
        for (One one : people) {
            for (int shift : new int[] {24, 16, 8, 0}) {
                bytes.add((int) (((one.number + (1L << 32)) >> shift) % 256));
            }
            bytes.add(one.home + 1);
        }
        int c = 73;
        for (int b : bytes) {
            c = (5 * c + b) % 251;
        }
        bytes.add(c);
        picture = bytes.stream().mapToInt(Integer::intValue).toArray();
        return picture.length;
    }

    int octet(int k) {
        return k >= 0 && k < picture.length ? picture[k] : NONE;
    }

    boolean on() {
        List<Integer> t = tape;
        tape = new ArrayList<>();
        List<One> read = imageOf(t);
        if (read == null) {
            refused[5]++;
            return false;
        }
        year = t.get(0) * 256 + t.get(1);
        night = t.get(2) == 1;
        people = read;
        acts.clear();
        return true;
    }

    private List<One> imageOf(List<Integer> t) {
        if (t.size() < 5 || t.get(0) * 256 + t.get(1) > 9999 || t.get(2) > 1 || t.get(3) > 16
            || t.size() != 5 + 5 * t.get(3)) {
            return null;
        }
        int c = 73;
        for (int b : t.subList(0, t.size() - 1)) {
            c = (5 * c + b) % 251;
        }
        if (c != t.get(t.size() - 1)) {
            return null;
        }
        List<One> read = new ArrayList<>();
        Set<Integer> numbers = new TreeSet<>();
        List<Integer> homes = new ArrayList<>();
        for (int i = 0; i < t.get(3); i++) {
            long number = 0;
            for (int b : t.subList(4 + 5 * i, 8 + 5 * i)) {
                number = number * 256 + b;
            }
            number -= number >= 1L << 31 ? 1L << 32 : 0;
            int home = t.get(8 + 5 * i) - 1;
            if (number == 0 || Math.abs(number) > 999999999L || !numbers.add((int) number) || home >= houses.size()) {
                return null;
            }
            homes.add(home);
            if (home >= 0 && Collections.frequency(homes, home) > houses.get(home).rooms) {
                return null;
            }
            read.add(new One((int) number, home));
        }
        return read;
    }

    int status(int what) {
        return what >= 0 && what < 6 ? refused[what] : NONE;
    }
}
