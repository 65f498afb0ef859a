import java.util.Arrays;

/** A town whose people are whole numbers, told as a text on a tape. */
public final class NumberDoor {
    public static final int NONE = -1;
    public static final int NOBODY = -1000000000;

    private static final int MOST_BYTES = 1600;
    private static final int MOST_PEOPLE = 16;
    private static final int MOST_HOUSES = 12;
    private static final int MOST_STREETS = 4;
    private static final int MOST_LAWS = 8;
    private static final int WED_TEST = 8;
    private static final int NOT_ANY = 20;
    private static final int MOST_NUMBER = 999999999;
    private static final int LAST_YEAR = 9999;

    private final int[] tape;
    private int tapeLength;
    private final Reader reader;
    private int faultKind;
    private int faultPlace;
    private final Town town;
    private final Folk folk;
    private final Folk spare;
    private final Judge judge;
    private final Placing placing;
    private final Couples couples;
    private final History history;
    private final Riddle riddle;
    private final Digits digits;
    private final int[] table;
    private final int[] picture;
    private int pictureLength;
    private final int[] refusals;
    private int seed;

    public NumberDoor() {
        tape = new int[MOST_BYTES];
        town = new Town();
        folk = new Folk();
        spare = new Folk();
        reader = new Reader(new Tokens(), new Town(), spare);
        table = new int[1 << MOST_HOUSES];
        judge = new Judge(town, folk);
        placing = new Placing(town, folk, judge);
        couples = new Couples(folk, judge, table);
        history = new History();
        riddle = new Riddle();
        digits = new Digits();
        picture = new int[5 + 5 * MOST_PEOPLE];
        refusals = new int[6];
        faultPlace = NONE;
        seed = 1;
    }

    // ---- the tape

    public int feed(int a, int b, int c, int d, int e) {
        if (tapeLength + 20 > MOST_BYTES) {
            refuse(0);
            return NONE;
        }
        putFour(a);
        putFour(b);
        putFour(c);
        putFour(d);
        putFour(e);
        return tapeLength;
    }

    private void putFour(int word) {
        for (int shift = 24; shift >= 0; shift -= 8) {
            if (tapeLength < tape.length) {
                tape[tapeLength] = (word >>> shift) & 255;
                tapeLength++;
            }
        }
    }

    public boolean end(int n) {
        if (n < 0 || n > tapeLength) {
            return refuse(0);
        }
        tapeLength = n;
        return true;
    }

    public int town() {
        boolean good = reader.read(tape, tapeLength);
        tapeLength = 0;
        faultKind = reader.faultKind;
        faultPlace = reader.faultPlace;
        if (!good) {
            refuse(1);
            return NONE;
        }
        town.copyFrom(reader.town);
        folk.copyFrom(spare);
        riddle.forget();
        history.forget();
        forgetAnswers();
        return reader.statements;
    }

    public int fault(int what) {
        if (what == 0) {
            return faultKind;
        }
        return what == 1 ? faultPlace : NONE;
    }

    // ---- what there is

    public int has(int what) {
        switch (what) {
            case 0: return town.streets;
            case 1: return town.houses;
            case 2: return town.lanes;
            case 3: return folk.count;
            case 4: return Integer.bitCount(folk.waiting());
            case 5: return town.laws;
            case 6: return town.debts;
            case 7: return judge.countBreaches();
            case 8: return folk.year;
            case 9: return folk.night ? 1 : 0;
            case 10: return history.count;
            case 11: return seed;
            default: return NONE;
        }
    }

    public int letter(int kind, int which, int k) {
        if (k < 0 || k > 5) {
            return NONE;
        }
        if (kind == 0 && which >= 0 && which < town.streets) {
            return Tokens.letterOf(town.streetName[which], k);
        }
        if (kind == 1 && isHouse(which)) {
            return Tokens.letterOf(town.houseName[which], k);
        }
        return NONE;
    }

    public int house(int house, int what) {
        if (!isHouse(house)) {
            return NONE;
        }
        switch (what) {
            case 0: return town.streetOf[house];
            case 1: return town.rooms[house];
            case 2: return folk.living(house);
            case 3: return town.placeOf[house];
            case 4: return town.beside[house];
            default: return what >= 10 ? bitAt(folk.dwellers[house], what - 10) : NONE;
        }
    }

    public int number(int person) {
        return isPerson(person) ? folk.number[person] : NOBODY;
    }

    public int person(int person, int what) {
        if (!isPerson(person)) {
            return NONE;
        }
        int size = Math.abs(folk.number[person]);
        switch (what) {
            case 0: return folk.home[person];
            case 1: return judge.countBreachesOf(person);
            case 2: return Integer.bitCount(quarrelling(person));
            case 3: return Numbers.isPrime(size) ? 1 : 0;
            case 4: return folk.partsFor(person) == size ? 1 : 0;
            default: return NONE;
        }
    }

    // ---- laws

    public int breach(int k, int what) {
        int found = judge.findBreach(k);
        if (found < 0) {
            return NONE;
        }
        switch (what) {
            case 0: return Judge.lawOf(found);
            case 1: return Judge.meOf(found);
            case 2: return Judge.otherOf(found);
            default: return NONE;
        }
    }

    public int may(int person, int house) {
        if (!isPerson(person) || !isHouse(house)) {
            return NONE;
        }
        return judge.mayLive(person, house) ? 1 : 0;
    }

    public int placed(int k) {
        placing.look();
        return placing.tellOf(k);
    }

    public int holds(int law, int me, int other) {
        if (!isPerson(me) || !isPerson(other) || !town.hasTest(law)) {
            return NONE;
        }
        return judge.isTrue(law, me, folk.number[other]) ? 1 : 0;
    }

    // ---- acts

    public boolean move(int person, int house) {
        if (!isPerson(person) || (house != NONE && !isHouse(house))) {
            return refuse(2);
        }
        if (folk.home[person] == house || (folk.number[person] < 0 && !folk.night)) {
            return refuse(2);
        }
        if (house != NONE && folk.living(house) >= town.rooms[house]) {
            return refuse(2);
        }
        history.keep(folk);
        folk.settle(person, house);
        forgetAnswers();
        return true;
    }

    public boolean night(boolean is) {
        if (folk.night == is) {
            return refuse(2);
        }
        history.keep(folk);
        folk.night = is;
        return true;
    }

    public int housed() {
        history.keep(folk);
        int moved = 0;
        for (int person = 0; person < folk.count; person++) {
            boolean moves = folk.home[person] == NONE && (folk.number[person] > 0 || folk.night);
            for (int house = 0; house < town.houses && moves; house++) {
                if (judge.mayLive(person, house)) {
                    folk.settle(person, house);
                    moved++;
                    moves = false;
                }
            }
        }
        forgetAnswers();
        return moved;
    }

    public int years(int n) {
        if (n < 1 || n > 50 || folk.year > LAST_YEAR - n) {
            refuse(3);
            return NONE;
        }
        history.keep(folk);
        int came = 0;
        for (int i = 0; i < n; i++) {
            came += passYear();
        }
        forgetAnswers();
        return came;
    }

    private int passYear() {
        int came = 0;
        if (town.houses > 0) {
            burn();
            came = bear();
        }
        came += comeIn(draw(1000) + 1, NONE);
        folk.year++;
        return came;
    }

    private void burn() {
        int house = draw(town.houses);
        if (draw(100) >= town.fire) {
            return;
        }
        for (int person = 0; person < folk.count; person++) {
            if (folk.home[person] == house) {
                folk.settle(person, NONE);
            }
        }
    }

    private int bear() {
        int house = draw(town.houses);
        if (!isHouse(house)) {
            return 0;
        }
        int first = bitAt(folk.dwellers[house], 0);
        int second = bitAt(folk.dwellers[house], 1);
        if (!isPerson(first) || !isPerson(second) || folk.living(house) >= town.rooms[house]) {
            return 0;
        }
        return comeIn(Math.abs(folk.number[first] - folk.number[second]), house);
    }

    private int comeIn(int number, int house) {
        if (number == 0 || number > MOST_NUMBER || folk.count >= MOST_PEOPLE || folk.find(number) >= 0) {
            return 0;
        }
        folk.add(number, house);
        return 1;
    }

    private int draw(int m) {
        seed = (int) ((1103515245L * seed + 12345L) & 0x7fffffffL);
        return (seed / 64) % Math.max(1, m);
    }

    public boolean undo() {
        if (!history.giveBack(folk)) {
            return refuse(4);
        }
        forgetAnswers();
        return true;
    }

    public boolean seed(int seed) {
        if (seed < 0) {
            return refuse(5);
        }
        this.seed = seed;
        return true;
    }

    // ---- weddings, factors

    public int weds(int k) {
        return couples.tellOf(k);
    }

    public int parts(int person, int k) {
        if (!isPerson(person)) {
            return NONE;
        }
        digits.set(folk.partsFor(person));
        return digits.tellOf(k);
    }

    public int friends(int k) {
        int left = k;
        for (int one = 0; one < folk.count; one++) {
            for (int other = one + 1; other < folk.count; other++) {
                if (areFriends(one, other)) {
                    if (left == 0) {
                        return 100 * one + other;
                    }
                    left--;
                }
            }
        }
        return NONE;
    }

    private boolean areFriends(int one, int other) {
        int size = Math.abs(folk.number[one]);
        int otherSize = Math.abs(folk.number[other]);
        return size != otherSize && folk.partsFor(one) == otherSize && folk.partsFor(other) == size;
    }

    public int factor(int first, int second) {
        if (!isPerson(first) || !isPerson(second)) {
            return NONE;
        }
        return Numbers.commonFactor(folk.number[first], folk.number[second]);
    }

    public int quarrel(int k) {
        int left = k;
        for (int one = 0; one < folk.count && left >= 0; one++) {
            int later = quarrelling(one) & (-2 << one);
            int many = Integer.bitCount(later);
            if (left < many) {
                return 100 * one + bitAt(later, left);
            }
            left -= many;
        }
        return NONE;
    }

    private int quarrelling(int person) {
        int met = judge.within(person) | judge.besides(person);
        int found = 0;
        for (int other = 0; other < folk.count; other++) {
            if (((met >> other) & 1) == 1 && Numbers.commonFactor(folk.number[person], folk.number[other]) > 1) {
                found |= 1 << other;
            }
        }
        return found;
    }

    public int twins(int m, int person) {
        if (m < 2 || m > 99) {
            return NONE;
        }
        if (person == NONE) {
            return countRemainders(m);
        }
        return isPerson(person) ? countLike(m, person, folk.count) - 1 : NONE;
    }

    private int countRemainders(int m) {
        int many = 0;
        for (int one = 0; one < folk.count; one++) {
            if (countLike(m, one, one) == 0) {
                many++;
            }
        }
        return many;
    }

    private int countLike(int m, int person, int before) {
        int many = 0;
        for (int other = 0; other < before && m != 0; other++) {
            if (Math.floorMod(folk.number[other], m) == Math.floorMod(folk.number[person], m)) {
                many++;
            }
        }
        return many;
    }

    // ---- sums, rents, debts

    public int sum(int street, int what) {
        if (street < 0 || street >= town.streets) {
            return NONE;
        }
        digits.set(0);
        for (int house = 0; house < town.houses; house++) {
            if (town.streetOf[house] == street) {
                addDwellers(house);
            }
        }
        if (what == 20) {
            return digits.carries;
        }
        return what == 21 ? digits.longest : digits.tellOf(what);
    }

    private void addDwellers(int house) {
        for (int person = 0; person < folk.count; person++) {
            if (folk.home[person] == house) {
                digits.add(Math.abs(folk.number[person]));
            }
        }
    }

    public int rent(int house, int k) {
        if (!isHouse(house)) {
            return NONE;
        }
        digits.set(folk.living(house) == 0 ? 0 : 1);
        for (int person = 0; person < folk.count; person++) {
            if (folk.home[person] == house) {
                digits.times(Math.abs(folk.number[person]));
            }
        }
        return digits.tellOf(k);
    }

    public int net(int house) {
        return isHouse(house) ? town.nets[house] : NOBODY;
    }

    public int struck() {
        return town.fewestPayments(table);
    }

    // ---- hidden ones

    public int tell() {
        int length = tapeLength;
        tapeLength = 0;
        if (!Riddle.isTold(tape, length)) {
            refuse(5);
            return NONE;
        }
        riddle.solve(tape);
        return riddle.rows;
    }

    public int hidden(int k) {
        return riddle.tellOf(k);
    }

    // ---- images, refusals

    public int image() {
        pictureLength = folk.writeTo(picture);
        return pictureLength;
    }

    public int octet(int k) {
        return k >= 0 && k < pictureLength ? picture[k] : NONE;
    }

    public boolean on() {
        int length = tapeLength;
        tapeLength = 0;
        if (!spare.readFrom(tape, length, town)) {
            return refuse(5);
        }
        folk.copyFrom(spare);
        history.forget();
        forgetAnswers();
        return true;
    }

    public int status(int what) {
        return what >= 0 && what < refusals.length ? refusals[what] : NONE;
    }

    // ---- what many calls share

    private boolean refuse(int sort) {
        if (sort >= 0 && sort < refusals.length) {
            refusals[sort]++;
        }
        return false;
    }

    private boolean isPerson(int person) {
        return person >= 0 && person < folk.count;
    }

    private boolean isHouse(int house) {
        return house >= 0 && house < town.houses;
    }

    private void forgetAnswers() {
        judge.forget();
        placing.forget();
        couples.forget();
    }

    private static int bitAt(int mask, int k) {
        if (k < 0) {
            return NONE;
        }
        int left = k;
        for (int bit = 0; bit < 32; bit++) {
            if (((mask >>> bit) & 1) == 1) {
                if (left == 0) {
                    return bit;
                }
                left--;
            }
        }
        return NONE;
    }

    /** The words, numbers and signs of the tape, cut out ahead of the reading. */
    private static final class Tokens {
        static final int END = 0;
        static final int OWN = 1;
        static final int NAME = 2;
        static final int NUMBER = 3;
        static final int SIGN = 4;
        static final int BAD = 5;

        static final int STREET = 0;
        static final int HOUSE = 1;
        static final int OF = 2;
        static final int ROOMS = 3;
        static final int LANE = 4;
        static final int PERSON = 5;
        static final int IN = 6;
        static final int LAW = 7;
        static final int EACH = 8;
        static final int BESIDE = 9;
        static final int WITHIN = 10;
        static final int WED = 11;
        static final int OWES = 12;
        static final int FIRE = 13;
        static final int ME = 14;
        static final int OTHER = 15;
        static final int MANY = 16;
        static final int SQUARE = 17;
        static final int PRIME = 18;
        static final int OR = 19;
        static final int AND = 20;
        static final int NOT = 21;
        static final int ALL = 22;
        static final int MIN = 23;
        static final int MAX = 24;
        static final int GCD = 25;

        // Six signs each, in the order of the constants above.
        private static final String OWN_WORDS =
            "streethouse of    rooms lane  numberin    law   each  besidewithinwed   owes  fire  me    other many  squareprime or    and   not   all   min   max   gcd   ";
        private static final String SIGNS = ";-<>=+*/%()[],";
        private static final int MOST_LETTERS = 6;
        private static final int MOST_DIGITS = 9;

        // One element holds a token's value, place and kind, since an object's elements are counted, whatever their size.
        private final long[] told;
        int count;
        int badPlace;
        private int joint;

        Tokens() {
            told = new long[MOST_BYTES + 1];
        }

        int kindOf(int token) {
            return token >= 0 && token < count && token < told.length ? (int) (told[token] & 7) : END;
        }

        int placeOf(int token) {
            return token >= 0 && token < count && token < told.length ? (int) (told[token] >> 3 & 2047) : 0;
        }

        int valueOf(int token) {
            return token >= 0 && token < count && token < told.length ? (int) (told[token] >> 14) : 0;
        }

        /** Letter k of a name, whose letters stand in five bits each from the left. */
        static int letterOf(int name, int k) {
            return (name >> (25 - 5 * k)) & 31;
        }

        void cut(int[] text, int length) {
            count = 0;
            badPlace = length;
            joint = NONE;
            int at = 0;
            for (int round = 0; round < length && at < length; round++) {
                at = cutOne(text, length, at);
            }
            put(END, 0, length);
        }

        private int cutOne(int[] text, int length, int at) {
            int c = text[at];
            if (c == 10 || c == 32) {
                return at + 1;
            }
            if (isLetter(c) || isDigit(c)) {
                return cutRun(text, length, at, isLetter(c));
            }
            if (SIGNS.indexOf((char) c) < 0) {
                return putBad(at, at, length);
            }
            put(SIGN, c, at);
            return at + 1;
        }

        private int cutRun(int[] text, int length, int at, boolean word) {
            if (at == joint) {
                return putBad(at, at, length);
            }
            int most = word ? MOST_LETTERS : MOST_DIGITS;
            int value = 0;
            int to = at;
            while (to < length && to - at <= most && (word ? isLetter(text[to]) : isDigit(text[to]))) {
                if (to - at == most) {
                    return putBad(at, to, length);
                }
                value = word ? value | (text[to] - 96) << (25 - 5 * (to - at)) : 10 * value + text[to] - 48;
                to++;
            }
            if (word) {
                putWord(text, at, to, value);
            } else {
                put(NUMBER, value, at);
            }
            joint = to;
            return to;
        }

        private void putWord(int[] text, int at, int to, int name) {
            for (int own = 0; own <= GCD; own++) {
                if (isOwnWord(text, at, to, own)) {
                    put(OWN, own, at);
                    return;
                }
            }
            put(NAME, name, at);
        }

        private static boolean isOwnWord(int[] text, int at, int to, int own) {
            int start = MOST_LETTERS * own;
            for (int k = 0; k < MOST_LETTERS; k++) {
                int c = at + k < to ? text[at + k] : 32;
                if (start + k >= OWN_WORDS.length() || OWN_WORDS.charAt(start + k) != c) {
                    return false;
                }
            }
            return true;
        }

        private void put(int kind, int value, int place) {
            if (count < told.length) {
                told[count] = (long) value << 14 | place << 3 | kind;
                count++;
            }
        }

        // Nothing behind a bad byte is ever read, so the cutting goes on at the end.
        private int putBad(int first, int bad, int length) {
            put(BAD, 0, first);
            badPlace = bad;
            return length;
        }

        private static boolean isLetter(int c) {
            return c >= 97 && c <= 122;
        }

        private static boolean isDigit(int c) {
            return c >= 48 && c <= 57;
        }
    }

    /** Reads a text as a town, statement by statement, up to its first fault. */
    private static final class Reader {
        private static final int MOST_STATEMENTS = 80;
        private static final int MOST_LANES = 10;
        private static final int MOST_DEBTS = 16;
        private static final int MOST_OPEN = 7;

        private final Tokens tokens;
        final Town town;
        private final Folk folk;
        int statements;
        int faultKind;
        int faultPlace;
        private int at;
        private int kind;
        private int value;
        private int place;
        private int lawKind;
        private int testFrom;

        Reader(Tokens tokens, Town town, Folk folk) {
            this.tokens = tokens;
            this.town = town;
            this.folk = folk;
        }

        boolean read(int[] text, int length) {
            tokens.cut(text, length);
            town.clear();
            folk.clear();
            statements = 0;
            faultKind = 0;
            faultPlace = NONE;
            at = -1;
            next();
            for (int told = 0; told <= MOST_STATEMENTS && kind != Tokens.END; told++) {
                if (!readStatement()) {
                    return false;
                }
                statements++;
            }
            return true;
        }

        private void next() {
            if (at + 1 < tokens.count) {
                at++;
                kind = tokens.kindOf(at);
                value = tokens.valueOf(at);
                place = tokens.placeOf(at);
            }
        }

        private boolean readStatement() {
            if (statements >= MOST_STATEMENTS) {
                return refuseFor(6, place);
            }
            int word = kind == Tokens.OWN ? value : NONE;
            if (isFull(word)) {
                return refuseFor(6, place);
            }
            boolean good;
            switch (word) {
                case Tokens.STREET: good = readStreet(); break;
                case Tokens.HOUSE: good = readHouse(); break;
                case Tokens.LANE: good = readLane(); break;
                case Tokens.PERSON: good = readPerson(); break;
                case Tokens.LAW: good = takeLawKind() && readTest(0) && town.addLaw(lawKind, testFrom); break;
                case Tokens.WED: good = takeWed() && readTest(0) && town.addWed(testFrom); break;
                case Tokens.OWES: good = readDebt(); break;
                case Tokens.FIRE: good = readFire(); break;
                default: good = refuseHere(); break;
            }
            return good && takeSign(';');
        }

        private boolean isFull(int word) {
            switch (word) {
                case Tokens.STREET: return town.streets >= MOST_STREETS;
                case Tokens.HOUSE: return town.houses >= MOST_HOUSES;
                case Tokens.LANE: return town.lanes >= MOST_LANES;
                case Tokens.PERSON: return folk.count >= MOST_PEOPLE;
                case Tokens.LAW: return town.laws >= MOST_LAWS;
                case Tokens.WED: return town.hasTest(WED_TEST);
                case Tokens.OWES: return town.debts >= MOST_DEBTS;
                default: return false;
            }
        }

        private boolean readStreet() {
            next();
            int name = value;
            if (!takeNewName()) {
                return false;
            }
            town.addStreet(name);
            return true;
        }

        private boolean readHouse() {
            next();
            int name = value;
            if (!takeNewName() || !takeWord(Tokens.OF)) {
                return false;
            }
            int street = takeStreet();
            if (street < 0 || !takeWord(Tokens.ROOMS)) {
                return false;
            }
            int rooms = takeNumber(1, 6);
            if (rooms < 0) {
                return false;
            }
            town.addHouse(name, street, rooms);
            return true;
        }

        private boolean readLane() {
            next();
            int first = takeHouse(0);
            if (first < 0) {
                return false;
            }
            int second = takeHouse(town.beside[first] | 1 << first);
            if (second < 0) {
                return false;
            }
            town.addLane(first, second);
            return true;
        }

        private boolean readPerson() {
            next();
            int from = place;
            boolean below = isSign('-');
            if (below) {
                next();
            }
            if (kind != Tokens.NUMBER) {
                return refuseHere();
            }
            int told = below ? -value : value;
            if (told == 0 || folk.find(told) >= 0) {
                return refuseFor(4, from);
            }
            next();
            int home = NONE;
            if (isOwn(Tokens.IN)) {
                next();
                home = takeHouse(fullHouses());
                if (home < 0) {
                    return false;
                }
            }
            folk.add(told, home);
            return true;
        }

        private int fullHouses() {
            int full = 0;
            for (int house = 0; house < town.houses; house++) {
                if (folk.living(house) >= town.rooms[house]) {
                    full |= 1 << house;
                }
            }
            return full;
        }

        private boolean takeLawKind() {
            next();
            if (kind != Tokens.OWN || value < Tokens.EACH || value > Tokens.WITHIN) {
                return refuseHere();
            }
            lawKind = value;
            testFrom = town.codeLength;
            next();
            return true;
        }

        private boolean takeWed() {
            testFrom = town.codeLength;
            next();
            return true;
        }

        private boolean readDebt() {
            next();
            int first = takeHouse(0);
            if (first < 0) {
                return false;
            }
            int second = takeHouse(1 << first);
            if (second < 0) {
                return false;
            }
            int money = takeNumber(1, 9999);
            if (money < 0) {
                return false;
            }
            town.addDebt(first, second, money);
            return true;
        }

        private boolean readFire() {
            next();
            int fire = takeNumber(0, 100);
            if (fire < 0) {
                return false;
            }
            town.fire = fire;
            return true;
        }

        private boolean readTest(int open) {
            boolean good = readBoth(open);
            for (int more = 0; more < MOST_BYTES && good && isOwn(Tokens.OR); more++) {
                next();
                good = readBoth(open) && town.emitWord(Tokens.OR);
            }
            return good;
        }

        private boolean readBoth(int open) {
            boolean good = readFact(open);
            for (int more = 0; more < MOST_BYTES && good && isOwn(Tokens.AND); more++) {
                next();
                good = readFact(open) && town.emitWord(Tokens.AND);
            }
            return good;
        }

        private boolean readFact(int open) {
            if (isOwn(Tokens.NOT)) {
                return opens(open) && readFact(open + 1) && town.emitWord(Tokens.NOT);
            }
            if (isSign('[')) {
                return opens(open) && readTest(open + 1) && takeSign(']');
            }
            if (isOwn(Tokens.ALL)) {
                next();
                return town.emitWord(Tokens.ALL);
            }
            if (isOwn(Tokens.SQUARE) || isOwn(Tokens.PRIME)) {
                int word = value;
                next();
                return readSum(open) && town.emitWord(word);
            }
            if (!readSum(open)) {
                return false;
            }
            int sign = value;
            if (!isSign('<') && !isSign('>') && !isSign('=')) {
                return refuseHere();
            }
            next();
            return readSum(open) && town.emitSign(sign);
        }

        private boolean readSum(int open) {
            boolean good = readProduct(open);
            for (int more = 0; more < MOST_BYTES && good && (isSign('+') || isSign('-')); more++) {
                int sign = value;
                next();
                good = readProduct(open) && town.emitSign(sign);
            }
            return good;
        }

        private boolean readProduct(int open) {
            boolean good = readPart(open);
            for (int more = 0; more < MOST_BYTES && good && (isSign('*') || isSign('/') || isSign('%')); more++) {
                int sign = value;
                next();
                good = readPart(open) && town.emitSign(sign);
            }
            return good;
        }

        private boolean readPart(int open) {
            int told = value;
            if (kind == Tokens.NUMBER) {
                next();
                return town.emit(told);
            }
            if (isSign('(')) {
                return opens(open) && readSum(open + 1) && takeSign(')');
            }
            if (kind != Tokens.OWN) {
                return refuseHere();
            }
            switch (told) {
                case Tokens.ME:
                case Tokens.OTHER:
                case Tokens.ROOMS:
                case Tokens.MANY:
                case Tokens.HOUSE:
                case Tokens.STREET:
                    next();
                    return town.emitWord(told);
                case Tokens.MIN:
                case Tokens.MAX:
                case Tokens.GCD:
                    next();
                    return readTwo(open) && town.emitWord(told);
                default:
                    return refuseHere();
            }
        }

        private boolean readTwo(int open) {
            if (!isSign('(')) {
                return refuseHere();
            }
            return opens(open) && readSum(open + 1) && takeSign(',') && readSum(open + 1) && takeSign(')');
        }

        private boolean opens(int open) {
            if (open >= MOST_OPEN) {
                return refuseFor(5, place);
            }
            next();
            return true;
        }

        private boolean isOwn(int word) {
            return kind == Tokens.OWN && value == word;
        }

        private boolean isSign(int sign) {
            return kind == Tokens.SIGN && value == sign;
        }

        private boolean takeSign(int sign) {
            if (!isSign(sign)) {
                return refuseHere();
            }
            next();
            return true;
        }

        private boolean takeWord(int word) {
            if (!isOwn(word)) {
                return refuseHere();
            }
            next();
            return true;
        }

        private boolean takeNewName() {
            if (kind != Tokens.NAME) {
                return refuseHere();
            }
            if (town.findStreet(value) >= 0 || town.findHouse(value) >= 0) {
                return refuseFor(2, place);
            }
            next();
            return true;
        }

        private int takeStreet() {
            if (kind != Tokens.NAME) {
                refuseHere();
                return NONE;
            }
            int street = town.findStreet(value);
            if (street < 0) {
                refuseFor(3, place);
                return NONE;
            }
            next();
            return street;
        }

        private int takeHouse(int barred) {
            if (kind != Tokens.NAME) {
                refuseHere();
                return NONE;
            }
            int house = town.findHouse(value);
            if (house < 0 || ((barred >> house) & 1) == 1) {
                refuseFor(3, place);
                return NONE;
            }
            next();
            return house;
        }

        private int takeNumber(int least, int most) {
            if (kind != Tokens.NUMBER) {
                refuseHere();
                return NONE;
            }
            int told = value;
            if (told < least || told > most) {
                refuseFor(4, place);
                return NONE;
            }
            next();
            return told;
        }

        private boolean refuseHere() {
            faultKind = 1;
            faultPlace = kind == Tokens.BAD ? tokens.badPlace : place;
            return false;
        }

        private boolean refuseFor(int fault, int where) {
            faultKind = fault;
            faultPlace = where;
            return false;
        }
    }

    /** What a text tells, but for the people: streets, houses, debts, and the laws as code for a stack. */
    private static final class Town {
        int streets;
        int houses;
        int lanes;
        int debts;
        int laws;
        int fire;
        final int[] streetName;
        final int[] houseName;
        final int[] streetOf;
        final int[] placeOf;
        final int[] rooms;
        final int[] beside;
        final int[] nets;
        private final int[] unsettled;
        final int[] lawKind;
        final int[] testFrom;
        final int[] testTo;
        final int[] code;
        int codeLength;

        Town() {
            streetName = new int[MOST_STREETS];
            houseName = new int[MOST_HOUSES];
            streetOf = new int[MOST_HOUSES];
            placeOf = new int[MOST_HOUSES];
            rooms = new int[MOST_HOUSES];
            beside = new int[MOST_HOUSES];
            nets = new int[MOST_HOUSES];
            unsettled = new int[MOST_HOUSES];
            lawKind = new int[MOST_LAWS];
            testFrom = new int[MOST_LAWS + 1];
            testTo = new int[MOST_LAWS + 1];
            code = new int[MOST_BYTES];
        }

        void clear() {
            streets = 0;
            houses = 0;
            lanes = 0;
            debts = 0;
            laws = 0;
            fire = 0;
            codeLength = 0;
            testFrom[WED_TEST] = 0;
            testTo[WED_TEST] = 0;
        }

        void copyFrom(Town told) {
            streets = told.streets;
            houses = told.houses;
            lanes = told.lanes;
            debts = told.debts;
            laws = told.laws;
            fire = told.fire;
            codeLength = told.codeLength;
            copyRow(told.streetName, streetName, streetName.length);
            copyRow(told.houseName, houseName, houseName.length);
            copyRow(told.streetOf, streetOf, streetOf.length);
            copyRow(told.placeOf, placeOf, placeOf.length);
            copyRow(told.rooms, rooms, rooms.length);
            copyRow(told.beside, beside, beside.length);
            copyRow(told.nets, nets, nets.length);
            copyRow(told.lawKind, lawKind, lawKind.length);
            copyRow(told.testFrom, testFrom, testFrom.length);
            copyRow(told.testTo, testTo, testTo.length);
            copyRow(told.code, code, codeLength);
        }

        private static void copyRow(int[] from, int[] to, int length) {
            if (length >= 0 && length <= from.length && length <= to.length) {
                System.arraycopy(from, 0, to, 0, length);
            }
        }

        void addStreet(int name) {
            if (streets < MOST_STREETS) {
                streetName[streets] = name;
                streets++;
            }
        }

        void addHouse(int name, int street, int many) {
            if (houses >= MOST_HOUSES) {
                return;
            }
            int house = houses;
            houseName[house] = name;
            streetOf[house] = street;
            rooms[house] = many;
            placeOf[house] = 0;
            beside[house] = 0;
            nets[house] = 0;
            int before = lastOn(street);
            houses++;
            if (before >= 0) {
                placeOf[house] = placeOf[before] + 1;
                join(before, house);
            }
        }

        private int lastOn(int street) {
            for (int house = houses - 1; house >= 0; house--) {
                if (streetOf[house] == street) {
                    return house;
                }
            }
            return NONE;
        }

        private void join(int one, int other) {
            beside[one] |= 1 << other;
            beside[other] |= 1 << one;
        }

        void addLane(int one, int other) {
            join(one, other);
            lanes++;
        }

        void addDebt(int debtor, int lender, int money) {
            nets[debtor] -= money;
            nets[lender] += money;
            debts++;
        }

        boolean addLaw(int kind, int from) {
            if (laws < MOST_LAWS) {
                lawKind[laws] = kind;
                testFrom[laws] = from;
                testTo[laws] = codeLength;
                laws++;
            }
            return true;
        }

        boolean addWed(int from) {
            testFrom[WED_TEST] = from;
            testTo[WED_TEST] = codeLength;
            return true;
        }

        boolean hasTest(int law) {
            return (law >= 0 && law < laws) || (law == WED_TEST && testFrom[law] < testTo[law]);
        }

        int findStreet(int name) {
            for (int street = 0; street < streets; street++) {
                if (streetName[street] == name) {
                    return street;
                }
            }
            return NONE;
        }

        int findHouse(int name) {
            for (int house = 0; house < houses; house++) {
                if (houseName[house] == name) {
                    return house;
                }
            }
            return NONE;
        }

        // Numbers stand in the code as they are; own words and signs are below 0, each sort in its own stretch.
        boolean emit(int step) {
            if (codeLength < code.length) {
                code[codeLength] = step;
                codeLength++;
            }
            return true;
        }

        boolean emitWord(int word) {
            return emit(-1 - word);
        }

        boolean emitSign(int sign) {
            return emit(-100 - sign);
        }

        /**
         * Houses that settle among themselves need one payment fewer than they are, so the most
         * groups whose nets come to 0 save the most. Each set's row holds its sum times 16 and its groups.
         */
        int fewestPayments(int[] table) {
            int many = 0;
            for (int house = 0; house < houses; house++) {
                if (nets[house] != 0) {
                    unsettled[many] = nets[house];
                    many++;
                }
            }
            if (table.length < 1 << many) {
                return NONE;
            }
            table[0] = 0;
            for (int set = 1; set < 1 << many; set++) {
                fillSet(table, set, many);
            }
            return many - (table[(1 << many) - 1] & 15);
        }

        private void fillSet(int[] table, int set, int many) {
            int groups = 0;
            int total = 0;
            for (int bit = 0; bit < many; bit++) {
                if (((set >> bit) & 1) == 1) {
                    int rest = table[set & ~(1 << bit)];
                    groups = Math.max(groups, rest & 15);
                    total = (rest >> 4) + unsettled[bit];
                }
            }
            table[set] = total * 16 + (total == 0 ? groups + 1 : groups);
        }
    }

    /** The people: their numbers, their houses, the year and whether it is night. */
    private static final class Folk {
        static final int ROW = 3 + 2 * MOST_PEOPLE;

        int count;
        int year;
        boolean night;
        final int[] number;
        final int[] home;
        final int[] dwellers;
        private final long[] partsKept;

        Folk() {
            number = new int[MOST_PEOPLE];
            home = new int[MOST_PEOPLE];
            dwellers = new int[MOST_HOUSES];
            partsKept = new long[MOST_PEOPLE];
            Arrays.fill(partsKept, NONE);
        }

        void clear() {
            count = 0;
            year = 0;
            night = false;
            Arrays.fill(dwellers, 0);
        }

        void copyFrom(Folk told) {
            clear();
            year = told.year;
            night = told.night;
            for (int person = 0; person < told.count; person++) {
                add(told.number[person], told.home[person]);
            }
        }

        void add(int told, int house) {
            if (count >= MOST_PEOPLE) {
                return;
            }
            // What the parts of a number are is dear to find, so it is kept as long as the number stays.
            if (number[count] != told) {
                number[count] = told;
                partsKept[count] = NONE;
            }
            home[count] = NONE;
            count++;
            settle(count - 1, house);
        }

        void settle(int person, int house) {
            if (person < 0 || person >= MOST_PEOPLE) {
                return;
            }
            int before = home[person];
            if (before >= 0 && before < MOST_HOUSES) {
                dwellers[before] &= ~(1 << person);
            }
            home[person] = NONE;
            if (house >= 0 && house < MOST_HOUSES) {
                home[person] = house;
                dwellers[house] |= 1 << person;
            }
        }

        int living(int house) {
            return Integer.bitCount(dwellers[house]);
        }

        int waiting() {
            int found = 0;
            for (int person = 0; person < count; person++) {
                if (home[person] == NONE) {
                    found |= 1 << person;
                }
            }
            return found;
        }

        int find(int told) {
            for (int person = 0; person < count; person++) {
                if (number[person] == told) {
                    return person;
                }
            }
            return NONE;
        }

        long partsFor(int person) {
            if (partsKept[person] < 0) {
                partsKept[person] = Numbers.partsOf(Math.abs(number[person]));
            }
            return partsKept[person];
        }

        void saveRow(int[] row) {
            if (row.length < ROW) {
                return;
            }
            row[0] = count;
            row[1] = year;
            row[2] = night ? 1 : 0;
            for (int person = 0; person < count; person++) {
                row[3 + 2 * person] = number[person];
                row[4 + 2 * person] = home[person];
            }
        }

        void loadRow(int[] row) {
            if (row.length < ROW) {
                return;
            }
            clear();
            year = row[1];
            night = row[2] == 1;
            for (int person = 0; person < row[0] && person < MOST_PEOPLE; person++) {
                add(row[3 + 2 * person], row[4 + 2 * person]);
            }
        }

        int writeTo(int[] bytes) {
            int length = 5 + 5 * count;
            if (bytes.length < length) {
                return 0;
            }
            bytes[0] = year >> 8;
            bytes[1] = year & 255;
            bytes[2] = night ? 1 : 0;
            bytes[3] = count;
            for (int person = 0; person < count; person++) {
                int at = 4 + 5 * person;
                bytes[at] = number[person] >>> 24;
                bytes[at + 1] = (number[person] >> 16) & 255;
                bytes[at + 2] = (number[person] >> 8) & 255;
                bytes[at + 3] = number[person] & 255;
                bytes[at + 4] = home[person] + 1;
            }
            bytes[length - 1] = checkOf(bytes, length - 1);
            return length;
        }

        private static int checkOf(int[] bytes, int length) {
            int c = 73;
            for (int at = 0; at < length && at < bytes.length; at++) {
                c = (5 * c + bytes[at]) % 251;
            }
            return c;
        }

        boolean readFrom(int[] bytes, int length, Town town) {
            clear();
            if (length < 5 || length > bytes.length || bytes[3] > MOST_PEOPLE || length != 5 + 5 * bytes[3]) {
                return false;
            }
            year = 256 * bytes[0] + bytes[1];
            night = bytes[2] == 1;
            if (year > LAST_YEAR || bytes[2] > 1 || bytes[length - 1] != checkOf(bytes, length - 1)) {
                return false;
            }
            for (int at = 4; at + 5 < length; at += 5) {
                int told = bytes[at] << 24 | bytes[at + 1] << 16 | bytes[at + 2] << 8 | bytes[at + 3];
                if (!readOne(told, bytes[at + 4] - 1, town)) {
                    return false;
                }
            }
            return true;
        }

        private boolean readOne(int told, int house, Town town) {
            if (told == 0 || told > MOST_NUMBER || told < -MOST_NUMBER || find(told) >= 0) {
                return false;
            }
            if (house >= town.houses || (house >= 0 && living(house) >= town.rooms[house])) {
                return false;
            }
            add(told, house);
            return true;
        }
    }

    /** Asks the tests, and finds which laws are broken by whom. */
    private static final class Judge {
        private static final int MOST_RESULT = 1000000000;
        // Behind the people's bits: a law of each is broken without an other.
        private static final int ALONE = MOST_PEOPLE;

        private final Town town;
        private final Folk folk;
        private final int[] stack;
        private int top;
        private final int[] broken;
        private boolean known;

        Judge(Town town, Folk folk) {
            this.town = town;
            this.folk = folk;
            stack = new int[64];
            broken = new int[MOST_LAWS * MOST_PEOPLE];
        }

        void forget() {
            known = false;
        }

        boolean isTrue(int law, int me, int other) {
            if (law < 0 || law > WED_TEST) {
                return false;
            }
            top = 0;
            int to = Math.min(town.testTo[law], town.code.length);
            for (int at = town.testFrom[law]; at < to; at++) {
                int step = town.code[at];
                int word = -1 - step;
                if (step >= 0) {
                    push(step);
                } else if (step <= -100) {
                    int second = pop();
                    push(combine(-100 - step, pop(), second));
                } else if (word <= Tokens.MANY) {
                    push(ask(word, me, other));
                } else {
                    doWord(word);
                }
            }
            return pop() != 0;
        }

        private int ask(int word, int me, int other) {
            int home = folk.home[me];
            boolean past = home < 0 || home >= town.houses;
            switch (word) {
                case Tokens.ME: return folk.number[me];
                case Tokens.OTHER: return other;
                case Tokens.ROOMS: return past ? 0 : town.rooms[home];
                case Tokens.MANY: return past ? 0 : Integer.bitCount(folk.dwellers[home]);
                case Tokens.STREET: return past ? -1 : town.streetOf[home];
                default: return past ? -1 : home;
            }
        }

        private void doWord(int word) {
            switch (word) {
                case Tokens.ALL: push(1); break;
                case Tokens.NOT: push(1 - pop()); break;
                case Tokens.SQUARE: push(Numbers.isSquare(pop()) ? 1 : 0); break;
                case Tokens.PRIME: push(Numbers.isPrime(pop()) ? 1 : 0); break;
                case Tokens.OR:
                case Tokens.MAX: push(Math.max(pop(), pop())); break;
                case Tokens.AND:
                case Tokens.MIN: push(Math.min(pop(), pop())); break;
                case Tokens.GCD: push(Numbers.commonFactor(pop(), pop())); break;
                default: break;
            }
        }

        private static int combine(int sign, int a, int b) {
            long result;
            switch (sign) {
                case '<': return a < b ? 1 : 0;
                case '>': return a > b ? 1 : 0;
                case '=': return a == b ? 1 : 0;
                case '+': result = (long) a + b; break;
                case '-': result = (long) a - b; break;
                case '*': result = (long) a * b; break;
                case '/': result = b == 0 ? 0 : Math.floorDiv(a, b); break;
                default: result = b == 0 ? 0 : Math.floorMod(a, b); break;
            }
            return (int) Math.max(-MOST_RESULT, Math.min(MOST_RESULT, result));
        }

        private void push(int value) {
            if (top < stack.length) {
                stack[top] = value;
                top++;
            }
        }

        private int pop() {
            if (top <= 0) {
                return 0;
            }
            top--;
            return stack[top];
        }

        int within(int person) {
            int home = folk.home[person];
            return home >= 0 && home < town.houses ? folk.dwellers[home] & ~(1 << person) : 0;
        }

        int besides(int person) {
            int home = folk.home[person];
            if (home < 0 || home >= town.houses) {
                return 0;
            }
            int found = 0;
            for (int house = 0; house < town.houses; house++) {
                if (((town.beside[home] >> house) & 1) == 1) {
                    found |= folk.dwellers[house];
                }
            }
            return found;
        }

        /** Of the asked others, those with whom one breaks a law as me; for a law of each the bit behind all people. */
        int breaks(int law, int me, int asked) {
            int kind = town.lawKind[law];
            if (kind == Tokens.EACH) {
                boolean free = folk.home[me] == NONE || ((asked >> ALONE) & 1) == 0;
                return free || isTrue(law, me, 0) ? 0 : 1 << ALONE;
            }
            int met = (kind == Tokens.WITHIN ? within(me) : besides(me)) & asked;
            if (met == 0) {
                return 0;
            }
            int found = 0;
            for (int other = 0; other < folk.count; other++) {
                if (((met >> other) & 1) == 1 && !isTrue(law, me, folk.number[other])) {
                    found |= 1 << other;
                }
            }
            return found;
        }

        /** Whether there is a breach with one as me or other, as all live now. */
        boolean isInBreach(int person) {
            int met = within(person) | besides(person);
            for (int law = 0; law < town.laws; law++) {
                if (breaks(law, person, -1) != 0) {
                    return true;
                }
                for (int me = 0; me < folk.count; me++) {
                    if (((met >> me) & 1) == 1 && breaks(law, me, 1 << person) != 0) {
                        return true;
                    }
                }
            }
            return false;
        }

        boolean mayLive(int person, int house) {
            int before = folk.home[person];
            if (before == house || folk.living(house) >= town.rooms[house]) {
                return false;
            }
            folk.settle(person, house);
            boolean broke = isInBreach(person);
            folk.settle(person, before);
            return !broke;
        }

        private void look() {
            if (known) {
                return;
            }
            Arrays.fill(broken, 0);
            for (int law = 0; law < town.laws; law++) {
                for (int me = 0; me < folk.count; me++) {
                    broken[MOST_PEOPLE * law + me] = breaks(law, me, -1);
                }
            }
            known = true;
        }

        int countBreaches() {
            look();
            int many = 0;
            for (int row = 0; row < broken.length; row++) {
                many += Integer.bitCount(broken[row]);
            }
            return many;
        }

        int countBreachesOf(int person) {
            look();
            int many = 0;
            for (int law = 0; law < MOST_LAWS; law++) {
                many += Integer.bitCount(broken[MOST_PEOPLE * law + person]);
                for (int me = 0; me < MOST_PEOPLE; me++) {
                    many += (broken[MOST_PEOPLE * law + me] >> person) & 1;
                }
            }
            return many;
        }

        /** The k-th breach as one number, which lawOf, meOf and otherOf take apart; NONE when there is none such. */
        int findBreach(int k) {
            look();
            int left = k;
            for (int row = 0; row < broken.length && left >= 0; row++) {
                int many = Integer.bitCount(broken[row]);
                if (left < many) {
                    return 32 * row + bitAt(broken[row], left);
                }
                left -= many;
            }
            return NONE;
        }

        static int lawOf(int found) {
            return found / 32 / MOST_PEOPLE;
        }

        static int meOf(int found) {
            return found / 32 % MOST_PEOPLE;
        }

        static int otherOf(int found) {
            return found % 32 == ALONE ? NONE : found % 32;
        }
    }

    /** A house for each of those past the bridge, so that the town is lawful. */
    private static final class Placing {
        private static final int MOST_WAITING = 3;
        private static final int UNKNOWN = 0;
        private static final int CALM = 1;
        private static final int TORN = 2;

        private final Town town;
        private final Folk folk;
        private final Judge judge;
        private final int[] asked;
        private final int[] chosen;
        private final int[] moods;
        private int many;
        private int waiting;
        private int best;
        private boolean known;

        Placing(Town town, Folk folk, Judge judge) {
            this.town = town;
            this.folk = folk;
            this.judge = judge;
            asked = new int[MOST_WAITING];
            chosen = new int[MOST_WAITING];
            moods = new int[MOST_HOUSES * (MOST_WAITING + 1)];
        }

        void forget() {
            known = false;
        }

        int tellOf(int k) {
            if (k == NONE || best == NONE) {
                return best;
            }
            for (int i = 0; i < many; i++) {
                if (asked[i] == k) {
                    return chosen[i] == NONE ? NOT_ANY : chosen[i];
                }
            }
            return NONE;
        }

        // The ways in their order, none behind all houses, so that the first of like ones is met first.
        void look() {
            if (known) {
                return;
            }
            known = true;
            best = NONE;
            waiting = folk.waiting();
            many = Integer.bitCount(waiting);
            if (many > MOST_WAITING) {
                return;
            }
            int ways = 1;
            for (int i = 0; i < many; i++) {
                asked[i] = bitAt(waiting, i);
                ways *= town.houses + 1;
            }
            Arrays.fill(moods, UNKNOWN);
            for (int way = 0; way < ways && best < many; way++) {
                int placed = settleAll(way);
                if (placed > best && isLawful()) {
                    keep(placed);
                }
                sendBack();
            }
        }

        /** Lets them live as a way tells: how many have a house then; NONE when there is no room. */
        private int settleAll(int way) {
            int choices = Math.max(0, town.houses) + 1;
            int rest = way;
            int placed = 0;
            for (int i = many - 1; i >= 0; i--) {
                int house = rest % choices;
                rest /= choices;
                if (house < town.houses) {
                    if (folk.living(house) >= town.rooms[house]) {
                        return NONE;
                    }
                    folk.settle(asked[i], house);
                    placed++;
                }
            }
            return placed;
        }

        private void sendBack() {
            for (int i = 0; i < many; i++) {
                folk.settle(asked[i], NONE);
            }
        }

        private void keep(int placed) {
            best = placed;
            for (int i = 0; i < many; i++) {
                chosen[i] = asked[i] < 0 ? NONE : folk.home[asked[i]];
            }
        }

        private boolean isLawful() {
            for (int house = 0; house < town.houses; house++) {
                if (isTorn(house)) {
                    return false;
                }
            }
            for (int i = 0; i < many; i++) {
                if (judge.isInBreach(asked[i])) {
                    return false;
                }
            }
            return true;
        }

        // How those who were housed before get on changes only with how many come into me's house: asked once for each.
        private boolean isTorn(int house) {
            int row = (MOST_WAITING + 1) * house + Integer.bitCount(folk.dwellers[house] & waiting);
            if (row >= moods.length) {
                return false;
            }
            if (moods[row] != UNKNOWN) {
                return moods[row] == TORN;
            }
            moods[row] = CALM;
            int before = folk.dwellers[house] & ~waiting;
            for (int me = 0; me < folk.count; me++) {
                for (int law = 0; law < town.laws && ((before >> me) & 1) == 1; law++) {
                    if (judge.breaks(law, me, ~waiting) != 0) {
                        moods[row] = TORN;
                    }
                }
            }
            return moods[row] == TORN;
        }
    }

    /** Who weds whom, so that most do. */
    private static final class Couples {
        // The table has rows for the sets of twelve people; the four ahead of them are tried one by one.
        private static final int TAIL = 12;

        private final Folk folk;
        private final Judge judge;
        private final int[] table;
        private final int[] allowed;
        private final int[] tried;
        private final int[] partner;
        private int head;
        private int best;
        private boolean known;

        Couples(Folk folk, Judge judge, int[] table) {
            this.folk = folk;
            this.judge = judge;
            this.table = table;
            allowed = new int[MOST_PEOPLE];
            tried = new int[MOST_PEOPLE];
            partner = new int[MOST_PEOPLE];
        }

        void forget() {
            known = false;
        }

        int tellOf(int k) {
            if (k != NONE && (k < 0 || k >= folk.count)) {
                return NONE;
            }
            look();
            return k == NONE ? best : partner[k];
        }

        private void look() {
            if (known) {
                return;
            }
            known = true;
            findAllowed();
            head = Math.max(0, folk.count - TAIL);
            fillTable();
            best = NONE;
            Arrays.fill(tried, NOT_ANY);
            pairHead(0, (1 << folk.count) - 1, 0);
            pairTail();
        }

        private void findAllowed() {
            Arrays.fill(allowed, 0);
            for (int one = 0; one < folk.count; one++) {
                for (int other = one + 1; other < folk.count; other++) {
                    if (judge.isTrue(WED_TEST, one, folk.number[other]) && judge.isTrue(WED_TEST, other, folk.number[one])) {
                        allowed[one] |= 1 << other;
                        allowed[other] |= 1 << one;
                    }
                }
            }
        }

        private void fillTable() {
            int many = folk.count - head;
            table[0] = 0;
            for (int set = 1; set < 1 << many && set < table.length; set++) {
                int first = Integer.numberOfTrailingZeros(set);
                int rest = set & (set - 1);
                int wished = rest & (allowed[head + first] >> head);
                int most = table[rest];
                for (int other = first + 1; other < many; other++) {
                    if (((wished >> other) & 1) == 1) {
                        most = Math.max(most, 1 + table[rest & ~(1 << other)]);
                    }
                }
                table[set] = most;
            }
        }

        // Partners in the people's order, nobody last, so that the first of like ones is met first.
        private void pairHead(int one, int free, int couples) {
            if (couples + Integer.bitCount(free) / 2 <= best) {
                return;
            }
            if (one >= head) {
                keepIfMore(free, couples);
                return;
            }
            int rest = free & ~(1 << one);
            if (rest == free) {
                pairHead(one + 1, free, couples);
                return;
            }
            for (int other = one + 1; other < folk.count; other++) {
                if (((rest & allowed[one]) >> other & 1) == 1) {
                    tried[one] = other;
                    tried[other] = one;
                    pairHead(one + 1, rest & ~(1 << other), couples + 1);
                    tried[one] = NOT_ANY;
                    tried[other] = NOT_ANY;
                }
            }
            pairHead(one + 1, rest, couples);
        }

        private void keepIfMore(int free, int couples) {
            int set = free >> head;
            if (set < 0 || set >= table.length || couples + table[set] <= best) {
                return;
            }
            best = couples + table[set];
            System.arraycopy(tried, 0, partner, 0, MOST_PEOPLE);
        }

        private void pairTail() {
            int free = 0;
            for (int one = head; one < folk.count; one++) {
                free |= partner[one] == NOT_ANY ? 1 << (one - head) : 0;
            }
            for (int one = head; one < folk.count; one++) {
                int rest = free & ~(1 << (one - head));
                if (rest != free) {
                    free = pairOne(one, free, rest);
                }
            }
        }

        private int pairOne(int one, int free, int rest) {
            for (int other = one + 1; other < folk.count; other++) {
                int left = rest & ~(1 << (other - head));
                boolean may = left != rest && ((allowed[one] >> other) & 1) == 1;
                if (may && free < table.length && 1 + table[left] == table[free]) {
                    partner[one] = other;
                    partner[other] = one;
                    return left;
                }
            }
            return rest;
        }
    }

    /** The last twenty states ahead of acts. */
    private static final class History {
        private static final int MOST_ACTS = 20;

        private final int[][] rows;
        private int newest;
        int count;

        History() {
            rows = new int[MOST_ACTS][Folk.ROW];
        }

        void forget() {
            count = 0;
        }

        void keep(Folk folk) {
            newest = (newest + 1) % MOST_ACTS;
            folk.saveRow(rows[newest]);
            count = Math.min(count + 1, MOST_ACTS);
        }

        boolean giveBack(Folk folk) {
            if (count == 0) {
                return false;
            }
            folk.loadRow(rows[newest]);
            newest = (newest + MOST_ACTS - 1) % MOST_ACTS;
            count--;
            return true;
        }
    }

    /** Numbers hidden behind the quarrels that are told of them. */
    private static final class Riddle {
        private static final int LEAST_HIDDEN = 2;
        private static final int MOST_HIDDEN = 4;
        private static final int MOST_VALUE = 24;

        private final int[] foes;
        private final int[] row;
        private final int[] least;
        private int many;
        private int all;
        int rows;

        Riddle() {
            foes = new int[MOST_VALUE + 1];
            row = new int[MOST_HIDDEN];
            least = new int[MOST_HIDDEN];
        }

        void forget() {
            rows = 0;
        }

        static boolean isTold(int[] bytes, int length) {
            if (length < 3 || length > bytes.length || bytes[0] < LEAST_HIDDEN || bytes[0] > MOST_HIDDEN) {
                return false;
            }
            if (bytes[1] < 1 || bytes[1] > MOST_VALUE || length != 2 + bytes[0] * (bytes[0] - 1) / 2) {
                return false;
            }
            for (int at = 2; at < length; at++) {
                if (bytes[at] > 1) {
                    return false;
                }
            }
            return true;
        }

        void solve(int[] bytes) {
            many = bytes[0];
            all = (2 << bytes[1]) - 2;
            rows = 0;
            findFoes();
            search(0, bytes);
        }

        private void findFoes() {
            for (int one = 1; one <= MOST_VALUE; one++) {
                for (int other = 1; other <= MOST_VALUE; other++) {
                    foes[one] |= Numbers.commonFactor(one, other) > 1 ? 1 << other : 0;
                }
            }
        }

        // The last number is counted by sets; the first row that is met is the least.
        private void search(int k, int[] bytes) {
            int fitting = all;
            for (int before = 0; before < k; before++) {
                boolean quarrel = bytes[2 + pairOf(before, k)] == 1;
                fitting &= quarrel ? foes[row[before]] : ~foes[row[before]];
            }
            if (k + 1 >= many || k + 1 >= MOST_HIDDEN) {
                keepFirst(k, fitting);
                rows += Integer.bitCount(fitting);
                return;
            }
            for (int told = 1; told <= MOST_VALUE; told++) {
                if (((fitting >> told) & 1) == 1) {
                    row[k] = told;
                    search(k + 1, bytes);
                }
            }
        }

        private void keepFirst(int k, int fitting) {
            if (rows == 0 && fitting != 0) {
                row[k] = bitAt(fitting, 0);
                System.arraycopy(row, 0, least, 0, MOST_HIDDEN);
            }
        }

        private int pairOf(int one, int other) {
            return one * (2 * many - one - 1) / 2 + other - one - 1;
        }

        int tellOf(int k) {
            return rows > 0 && k >= 0 && k < many ? least[k] : NONE;
        }
    }

    /** Factors, squares, primes. */
    private static final class Numbers {
        private static final int[] SMALL_PRIMES = {2, 3, 5, 7, 11, 13, 17, 19, 23, 29, 31, 37};
        // These three bases are enough for every number below 4759123141.
        private static final int[] WITNESSES = {2, 7, 61};

        static int commonFactor(int one, int other) {
            int a = one < 0 ? -one : one;
            int b = other < 0 ? -other : other;
            for (int step = 0; step < 64 && b != 0; step++) {
                int rest = a % b;
                a = b;
                b = rest;
            }
            return a;
        }

        static boolean isSquare(int n) {
            if (n < 0) {
                return false;
            }
            int low = 0;
            int high = 46340;
            for (int step = 0; step < 32 && low < high; step++) {
                int middle = (low + high + 1) / 2;
                if (middle * middle <= n) {
                    low = middle;
                } else {
                    high = middle - 1;
                }
            }
            return low * low == n;
        }

        static boolean isPrime(int n) {
            if (n < 2) {
                return false;
            }
            for (int i = 0; i < SMALL_PRIMES.length; i++) {
                int p = SMALL_PRIMES[i];
                if (p != 0 && n % p == 0) {
                    return n == p;
                }
            }
            // By a prime n a witness to the power n - 1 leaves 1, and what leaves 1 when squared leaves 1 or n - 1.
            boolean prime = true;
            for (int i = 0; i < WITNESSES.length && prime && n >= 41 * 41; i++) {
                long x = 1;
                for (int bit = 30; bit >= 0; bit--) {
                    long square = x * x % n;
                    prime = prime && (square != 1 || x == 1 || x == n - 1);
                    x = ((n - 1) >> bit & 1) == 1 ? square * WITNESSES[i] % n : square;
                }
                prime = prime && x == 1;
            }
            return prime;
        }

        /** All divisors below n together: the product over its primes of 1 + p + p*p + .., less n. */
        static long partsOf(int n) {
            if (n < 2) {
                return 0;
            }
            long all = 1;
            int rest = n;
            boolean plain = isPrime(rest);
            for (int p = 2; p <= 31623 && !plain && p * p <= rest; p += p == 2 ? 1 : 2) {
                if (rest % p == 0) {
                    long term = 1;
                    for (int times = 0; times < 31 && rest % p == 0; times++) {
                        rest /= p;
                        term = term * p + 1;
                    }
                    all *= term;
                    plain = isPrime(rest);
                }
            }
            return (rest > 1 ? all * (rest + 1) : all) - n;
        }
    }

    /** A number digit by digit, from the last one on. */
    private static final class Digits {
        private static final int MOST = 64;

        private final int[] digit;
        private int count;
        int carries;
        int longest;

        Digits() {
            digit = new int[MOST];
        }

        void set(long value) {
            Arrays.fill(digit, 0);
            carries = 0;
            longest = 0;
            count = 1;
            long rest = value;
            for (int place = 0; place < MOST && rest > 0; place++) {
                digit[place] = (int) (rest % 10);
                rest /= 10;
                count = place + 1;
            }
        }

        void add(int value) {
            int rest = value;
            int carry = 0;
            int run = 0;
            for (int place = 0; place < MOST && rest + carry > 0; place++) {
                int total = digit[place] + rest % 10 + carry;
                rest /= 10;
                carry = total >= 10 ? 1 : 0;
                digit[place] = total - 10 * carry;
                run = carry == 1 ? run + 1 : 0;
                carries += carry;
                longest = Math.max(longest, run);
                count = Math.max(count, place + 1);
            }
        }

        void times(int value) {
            int before = count;
            long carry = 0;
            for (int place = 0; place < MOST && (place < before || carry > 0); place++) {
                long total = (long) digit[place] * value + carry;
                digit[place] = (int) (total % 10);
                carry = total / 10;
                count = place + 1;
            }
        }

        int tellOf(int k) {
            if (k == NONE) {
                return count;
            }
            return k >= 0 && k < count ? digit[k] : NONE;
        }
    }
}
