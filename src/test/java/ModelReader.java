import java.math.BigInteger;
import java.util.ArrayList;
import java.util.List;
import java.util.Set;

/** The reading of a town's text for the model: one byte ahead, a fault thrown as soon as it is met. */
final class ModelReader {
    private static final Set<String> OWN = Set.of("street", "house", "of", "rooms", "lane", "number", "in", "law",
        "each", "beside", "within", "wed", "owes", "fire", "me", "other", "many", "square", "prime", "or", "and", "not",
        "all", "min", "max", "gcd");

    final Model town = new Model();
    private final List<Integer> text;
    private int at;
    private String token = "";
    private int place;
    private int open;
    private int people;
    private int weds;
    private final List<Integer> living = new ArrayList<>();

    ModelReader(List<Integer> text) {
        this.text = text;
    }

    private int byteAt(int i) {
        return i < text.size() ? text.get(i) : -1;
    }

    private static boolean isLetter(int c) {
        return c >= 'a' && c <= 'z';
    }

    private static boolean isDigit(int c) {
        return c >= '0' && c <= '9';
    }

    private void blanks() {
        while (byteAt(at) == 10 || byteAt(at) == 32) {
            at++;
        }
    }

    /** The token from here on, "" at the end, "?" of a byte or a run that can't be; badAt tells where. */
    private int badAt;

    private void peek() {
        int before = at;
        blanks();
        place = at;
        badAt = at;
        int c = byteAt(at);
        if (c == -1) {
            token = "";
            return;
        }
        boolean word = isLetter(c);
        if (!word && !isDigit(c)) {
            token = ";-<>=+*/%()[],".indexOf(c) >= 0 ? Character.toString(c) : "?";
            return;
        }
        int prior = before > 0 ? byteAt(before - 1) : -1;
        if (before == at && (isLetter(prior) || isDigit(prior))) {
            token = "?";
            return;
        }
        StringBuilder run = new StringBuilder();
        while (word ? isLetter(byteAt(at + run.length())) : isDigit(byteAt(at + run.length()))) {
            run.append((char) byteAt(at + run.length()));
        }
        int most = word ? 6 : 9;
        if (run.length() > most) {
            token = "?";
            badAt = at + most;
            return;
        }
        token = run.toString();
    }

    private void take() {
        at = place + token.length();
        peek();
    }

    private Model.Fault here() {
        return new Model.Fault(1, token.isEmpty() ? text.size() : badAt);
    }

    private boolean isName() {
        return !token.isEmpty() && isLetter(token.charAt(0)) && !OWN.contains(token);
    }

    private boolean isNumber() {
        return !token.isEmpty() && isDigit(token.charAt(0));
    }

    private void expect(String what) {
        if (!token.equals(what)) {
            throw here();
        }
        take();
    }

    void all() {
        peek();
        while (!token.isEmpty()) {
            if (town.statements == 80) {
                throw new Model.Fault(6, place);
            }
            statement();
            expect(";");
            town.statements++;
        }
    }

    private void limit(int there, int most) {
        if (there >= most) {
            throw new Model.Fault(6, place);
        }
        take();
    }

    private void statement() {
        switch (token) {
            case "street" -> {
                limit(town.streets.size(), 4);
                town.streets.add(newName());
            }
            case "house" -> house();
            case "lane" -> {
                limit(town.lanes.size(), 10);
                int a = houseAt(-1, false);
                town.lanes.add(Set.of(a, houseAt(a, true)));
            }
            case "number" -> person();
            case "law" -> {
                limit(town.laws.size(), 8);
                String kind = token;
                if (!Set.of("each", "beside", "within").contains(kind)) {
                    throw here();
                }
                take();
                town.laws.add(new Model.Law(kind, test()));
            }
            case "wed" -> {
                limit(weds, 1);
                weds++;
                town.wed = test();
            }
            case "owes" -> {
                limit(town.debts.size(), 16);
                int a = houseAt(-1, false);
                int b = houseAt(a, false);
                town.debts.add(new int[] {a, b, numberFrom(1, 9999)});
            }
            case "fire" -> {
                take();
                town.fire = numberFrom(0, 100);
            }
            default -> throw here();
        }
    }

    private void house() {
        limit(town.houses.size(), 12);
        String name = newName();
        expect("of");
        if (!isName()) {
            throw here();
        }
        int street = town.streets.indexOf(token);
        if (street < 0) {
            throw new Model.Fault(3, place);
        }
        take();
        expect("rooms");
        int rooms = numberFrom(1, 6);
        int stand = (int) town.houses.stream().filter(h -> h.street() == street).count();
        town.houses.add(new Model.House(name, street, rooms, stand));
        living.add(0);
    }

    private void person() {
        limit(people, 16);
        int from = place;
        boolean below = token.equals("-");
        if (below) {
            take();
        }
        if (!isNumber()) {
            throw here();
        }
        int number = Integer.parseInt(token) * (below ? -1 : 1);
        if (number == 0 || town.people.stream().anyMatch(one -> one.number == number)) {
            throw new Model.Fault(4, from);
        }
        take();
        int home = -1;
        if (token.equals("in")) {
            take();
            int where = place;
            int asked = place;
            home = findHouse();
            if (living.get(home) >= town.houses.get(home).rooms()) {
                throw new Model.Fault(3, Math.min(where, asked));
            }
            living.set(home, living.get(home) + 1);
            take();
        }
        town.people.add(new Model.One(number, home));
        people++;
    }

    private String newName() {
        if (!isName()) {
            throw here();
        }
        String name = token;
        if (town.streets.contains(name) || town.houses.stream().anyMatch(h -> h.name().equals(name))) {
            throw new Model.Fault(2, place);
        }
        take();
        return name;
    }

    private int findHouse() {
        if (!isName()) {
            throw here();
        }
        for (int h = 0; h < town.houses.size(); h++) {
            if (town.houses.get(h).name().equals(token)) {
                return h;
            }
        }
        throw new Model.Fault(3, place);
    }

    private int houseAt(int unlike, boolean lane) {
        int h = findHouse();
        if (h == unlike || (lane && town.neighbours(h, unlike))) {
            throw new Model.Fault(3, place);
        }
        take();
        return h;
    }

    private int numberFrom(int least, int most) {
        if (!isNumber()) {
            throw here();
        }
        int n = Integer.parseInt(token);
        if (n < least || n > most) {
            throw new Model.Fault(4, place);
        }
        take();
        return n;
    }

    // ---- tests

    private static int bit(boolean is) {
        return is ? 1 : 0;
    }

    private Model.Rule test() {
        Model.Rule left = both();
        while (token.equals("or")) {
            take();
            Model.Rule a = left;
            Model.Rule b = both();
            left = (t, me, other) -> a.of(t, me, other) | b.of(t, me, other);
        }
        return left;
    }

    private Model.Rule both() {
        Model.Rule left = fact();
        while (token.equals("and")) {
            take();
            Model.Rule a = left;
            Model.Rule b = fact();
            left = (t, me, other) -> a.of(t, me, other) & b.of(t, me, other);
        }
        return left;
    }

    private void opening() {
        open++;
        if (open == 8) {
            throw new Model.Fault(5, place);
        }
        take();
    }

    private void closing(String sign) {
        expect(sign);
        open--;
    }

    private Model.Rule fact() {
        switch (token) {
            case "not": {
                opening();
                Model.Rule a = fact();
                open--;
                return (t, me, other) -> 1 - a.of(t, me, other);
            }
            case "[": {
                opening();
                Model.Rule a = test();
                closing("]");
                return a;
            }
            case "all":
                take();
                return (t, me, other) -> 1;
            case "square": {
                take();
                Model.Rule a = sum();
                return (t, me, other) -> bit(isSquare(a.of(t, me, other)));
            }
            case "prime": {
                take();
                Model.Rule a = sum();
                return (t, me, other) -> bit(isPrime(a.of(t, me, other)));
            }
            default: {
                Model.Rule a = sum();
                String sign = token;
                if (!Set.of("<", ">", "=").contains(sign)) {
                    throw here();
                }
                take();
                Model.Rule b = sum();
                return (t, me, other) -> {
                    int order = Integer.compare(a.of(t, me, other), b.of(t, me, other));
                    return bit(sign.equals("<") ? order < 0 : sign.equals(">") ? order > 0 : order == 0);
                };
            }
        }
    }

    private static boolean isSquare(int n) {
        if (n < 0) {
            return false;
        }
        BigInteger root = BigInteger.valueOf(n).sqrt();
        return root.multiply(root).intValueExact() == n;
    }

    private static boolean isPrime(int n) {
        if (n < 2) {
            return false;
        }
        for (int d = 2; d * (long) d <= n; d++) {
            if (n % d == 0) {
                return false;
            }
        }
        return true;
    }

    private static int capped(BigInteger n) {
        BigInteger most = BigInteger.TEN.pow(9);
        return n.min(most).max(most.negate()).intValueExact();
    }

    private static int count(String sign, int a, int b) {
        BigInteger p = BigInteger.valueOf(a);
        BigInteger q = BigInteger.valueOf(b);
        BigInteger whole = BigInteger.ZERO;
        if (b != 0) {
            BigInteger[] cut = p.divideAndRemainder(q);
            boolean above = cut[1].signum() != 0 && cut[1].signum() != q.signum();
            whole = above ? cut[0].subtract(BigInteger.ONE) : cut[0];
        }
        return capped(switch (sign) {
            case "+" -> p.add(q);
            case "-" -> p.subtract(q);
            case "*" -> p.multiply(q);
            case "/" -> whole;
            case "%" -> b == 0 ? BigInteger.ZERO : p.subtract(q.multiply(whole));
            case "min" -> p.min(q);
            case "max" -> p.max(q);
            default -> p.gcd(q);
        });
    }

    private Model.Rule two(String sign, Model.Rule a, Model.Rule b) {
        return (t, me, other) -> count(sign, a.of(t, me, other), b.of(t, me, other));
    }

    private Model.Rule sum() {
        Model.Rule left = product();
        while (token.equals("+") || token.equals("-")) {
            String sign = token;
            take();
            left = two(sign, left, product());
        }
        return left;
    }

    private Model.Rule product() {
        Model.Rule left = part();
        while (token.equals("*") || token.equals("/") || token.equals("%")) {
            String sign = token;
            take();
            left = two(sign, left, part());
        }
        return left;
    }

    private Model.Rule part() {
        String word = token;
        if (isNumber()) {
            int n = Integer.parseInt(word);
            take();
            return (t, me, other) -> n;
        }
        switch (word) {
            case "(": {
                opening();
                Model.Rule a = sum();
                closing(")");
                return a;
            }
            case "min", "max", "gcd": {
                take();
                if (!token.equals("(")) {
                    throw here();
                }
                opening();
                Model.Rule a = sum();
                expect(",");
                Model.Rule b = sum();
                closing(")");
                return two(word, a, b);
            }
            case "me", "other", "rooms", "many", "house", "street":
                take();
                return (t, me, other) -> asked(word, t, me, other);
            default:
                throw here();
        }
    }

    private static int asked(String word, Model t, int me, int other) {
        int home = t.people.get(me).home;
        boolean past = home < 0;
        return switch (word) {
            case "me" -> t.people.get(me).number;
            case "other" -> other;
            case "rooms" -> past ? 0 : t.houses.get(home).rooms();
            case "many" -> past ? 0 : t.dwellers(home).size();
            case "house" -> home;
            default -> past ? -1 : t.houses.get(home).street();
        };
    }
}
