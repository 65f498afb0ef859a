import java.math.BigInteger;

/** Boundary cases of weddings, factors, sums, debts, hidden ones and images, sentence by sentence: terms III, promises 21 to 36. */
public final class BoundaryNumberTest {
    private static final int NONE = Edge.NONE;
    private static final int NOBODY = Edge.NOBODY;
    private static final int TERMS = Edge.TERMS;
    private static final String OAK = "street oak;house a of oak rooms 2;house b of oak rooms 3;house c of oak rooms 1;";
    private static final String TWELVE = "street oak;" + Edge.times("house $ of oak rooms 6;", 12);

    public static void main(String[] args) {
        constants();
        calls512();
        wedMayTwo();
        couplesAsManyAsCanBe();
        couplesOfLikeOnes();
        partsOfANumber();
        perfect();
        friends();
        quarrels();
        twins();
        sumsAndCarries();
        carriesBehindOneAnother();
        rents();
        nets();
        struckOut();
        hiddenRows();
        anImage();
        p21Weds();
        p21NoneForOthers();
        p22Parts();
        p22OfTheNumberThatIsThere();
        p22NoneSuch();
        p23Friends();
        p24Factor();
        p25Quarrel();
        p26Twins();
        p26None();
        p27Sum();
        p27NoneSuch();
        p28Rent();
        p29Net();
        p30Struck();
        p31Tell();
        p31Refused();
        p32Hidden();
        p33Image();
        p34Octet();
        p35On();
        p35Refused();
        p36Status();
        p36NoneForOthers();
        Edge.finish(21, 36);
    }

    private static void constants() {
        Edge.says(TERMS, "`NONE = -1`: None; refused.");
        Edge.due("NONE", NumberDoor.NONE, -1);
        Edge.says(TERMS, "`NOBODY = -1000000000`: Told where -1 may be a number.");
        Edge.due("NOBODY", NumberDoor.NOBODY, -1000000000);
    }

    private static void calls512() {
        Edge.says(TERMS, "An object is used for at most 512 calls after it has been made");
        NumberDoor x = new NumberDoor();
        for (int i = 0; i < 511; i++) {
            x.undo();
        }
        Edge.due("the 512th call, behind 511 refused ones", x.status(4), 511);
        NumberDoor y = new NumberDoor();
        for (int i = 0; i < 511; i++) {
            y.night(i % 2 == 0);
        }
        Edge.due("the 512th call, behind 511 ACTS", y.has(10), 20);
        NumberDoor z = new NumberDoor();
        for (int i = 0; i < 511; i++) {
            z.years(50);
        }
        Edge.due("the 512th call, behind 199 times 50 YEARS and 312 refused ones", z.status(3), 312);
    }

    // ---- weddings

    private static void couples(NumberDoor x, int many, int... partners) {
        Edge.due("weds(NONE)", x.weds(NONE), many);
        for (int person = 0; person < partners.length; person++) {
            Edge.due("weds(" + person + ")", x.weds(person), partners[person]);
        }
    }

    private static void wedMayTwo() {
        Edge.says(TERMS, "WED may two, if its TEST holds with each of both as me (without wed nobody may).");
        couples(Edge.town("number 1;number 2;"), 0, 20, 20);
        couples(Edge.town("number 1;number 2;wed all;"), 1, 1, 0);
        couples(Edge.town("number 1;number 2;wed not all;"), 0, 20, 20);
        couples(Edge.town("number 1;number 2;wed me<other;"), 0, 20, 20);
        couples(Edge.town("number 1;number 2;wed me>other;"), 0, 20, 20);
        couples(Edge.town("number 1;number 2;wed me=other;"), 0, 20, 20);
        couples(Edge.town("number 1;wed all;"), 0, 20);
        couples(Edge.town("wed all;"), 0);
        couples(Edge.town(OAK + "number 1 in a;number 2 in a;number 3;wed many=2;"), 1, 1, 0, 20);
        NumberDoor x = Edge.town(OAK + "number 1 in a;number 2;wed house=0;");
        couples(x, 0, 20, 20);
        x.move(1, 0);
        couples(x, 1, 1, 0);
        x.undo();
        couples(x, 0, 20, 20);
        Edge.put(x, "number 1;number 2;");
        x.town();
        couples(x, 0, 20, 20);
    }

    private static void couplesAsManyAsCanBe() {
        Edge.says(TERMS, "COUPLES: each one in one at most: as many as can be");
        couples(Edge.town(Edge.times("number #;", 3) + "wed all;"), 1, 1, 0, 20);
        couples(Edge.town(Edge.times("number #;", 15) + "wed all;"), 7, 1, 0, 3, 2, 5, 4, 7, 6, 9, 8, 11, 10, 13, 12, 20);
        couples(Edge.town(Edge.times("number #;", 16) + "wed all;"), 8, 1, 0, 3, 2, 5, 4, 7, 6, 9, 8, 11, 10, 13, 12, 15, 14);
        couples(Edge.town(Edge.times("number #;", 16) + "wed me+other=17;"), 8, 15, 14, 13, 12, 11, 10, 9, 8, 7, 6, 5, 4, 3, 2, 1, 0);
        couples(Edge.town(Edge.times("number #;", 16) + "wed me=16 or other=16;"), 1, 15, 20, 20, 20, 20, 20, 20, 20, 20, 20, 20,
            20, 20, 20, 20, 0);
        couples(Edge.town(Edge.times("number #;", 16) + "wed me=1 or other=1;"), 1, 1, 0, 20, 20, 20, 20, 20, 20, 20, 20, 20, 20,
            20, 20, 20, 20);
        // 1 with 2 alone would leave 3 and 4 alone too.
        couples(Edge.town(Edge.times("number #;", 4) + "wed max(me,other)-min(me,other)=2 or me+other=3;"), 2, 2, 3, 0, 1);
        // A path of sixteen: 1-2, 2-3, ..
        couples(Edge.town(Edge.times("number #;", 16) + "wed square (me-other) and square (other-me) or max(me,other)-min(me,other)=1;"),
            8, 1, 0, 3, 2, 5, 4, 7, 6, 9, 8, 11, 10, 13, 12, 15, 14);
        // A path of fifteen: one is left over, as late as can be.
        couples(Edge.town(Edge.times("number #;", 15) + "wed max(me,other)-min(me,other)=1;"), 7, 1, 0, 3, 2, 5, 4, 7, 6, 9, 8, 11,
            10, 13, 12, 20);
    }

    private static void couplesOfLikeOnes() {
        Edge.says(TERMS, "of like ones the first by PEOPLE: whom the first one weds (nobody behind all), then the next one.");
        // Two circles of three: one couple in each.
        couples(Edge.town(Edge.times("number #;", 6) + "wed (me-1)/3=(other-1)/3;"), 2, 1, 0, 20, 4, 3, 20);
        // 2 and 3 both would wed 1 alone: the first one weds, and the lesser.
        couples(Edge.town(Edge.times("number #;", 3) + "wed me=1 or other=1;"), 1, 1, 0, 20);
        couples(Edge.town(Edge.times("number #;", 3) + "wed me=3 or other=3;"), 1, 2, 20, 0);
        couples(Edge.town(Edge.times("number #;", 3) + "wed me=2 or other=2;"), 1, 1, 0, 20);
        couples(Edge.town("number 3;number 1;number 2;wed me=2 or other=2;"), 1, 2, 20, 0);
        // Of sixteen: 1-5, 1-6, 5-7, 2-8, 3-8. 1 leaves 5 to 7, and 3 is left over though 8 could have wed her.
        couples(Edge.town(Edge.times("number #;", 16) + "wed 100*min(me,other)+max(me,other)=105 or 100*min(me,other)+max(me,other)=106 or "
            + "100*min(me,other)+max(me,other)=507 or 100*min(me,other)+max(me,other)=208 or 100*min(me,other)+max(me,other)=308;"),
            3, 5, 7, 20, 20, 6, 0, 4, 1, 20, 20, 20, 20, 20, 20, 20, 20);
        // Among fourteen all of whom may wed but 1 with 2.
        couples(Edge.town(Edge.times("number #;", 14) + "wed not me+other=3;"), 7, 2, 3, 0, 1, 5, 4, 7, 6, 9, 8, 11, 10, 13, 12);
    }

    // ---- factors

    private static void partsAre(NumberDoor x, int person, long parts) {
        String digits = Long.toString(parts);
        Edge.due("parts(" + person + ", NONE)", x.parts(person, NONE), digits.length());
        for (int k = 0; k < digits.length(); k++) {
            Edge.due("parts(" + person + ", " + k + ")", x.parts(person, k), digits.charAt(digits.length() - 1 - k) - '0');
        }
        Edge.due("parts(" + person + ") behind it", x.parts(person, digits.length()), NONE);
    }

    private static void partsOfANumber() {
        Edge.says(TERMS, "PARTS of a number: all by which it can be divided below itself together, signs aside (of 1: 0).");
        NumberDoor x = Edge.town("number 1;number -1;number 2;number -3;number 4;number 9;number -12;number 999999937;number 999999999;"
            + "number 735134400;number 999950884;number 536870912;number 999999929;number 998244353;number 961;number 30;");
        long[] want = {0, 0, 1, 1, 3, 4, 16, 1};
        for (int person = 0; person < want.length; person++) {
            partsAre(x, person, want[person]);
        }
        // 999999999 is 3^4 37 333667; 735134400 is 2^6 3^3 5^2 7 11 13 17, the most there are; 999950884 is 2^2 97^2 163^2.
        partsAre(x, 8, 121L * 38 * 333668 - 999999999L);
        partsAre(x, 9, 127L * 40 * 31 * 8 * 12 * 14 * 18 - 735134400L);
        partsAre(x, 10, 7L * (1 + 97 + 97 * 97) * (1 + 163 + 163 * 163) - 999950884L);
        partsAre(x, 11, 536870911);
        partsAre(x, 12, 1);
        partsAre(x, 13, 1);
        partsAre(x, 14, 32);
        partsAre(x, 15, 42);
    }

    private static void perfect() {
        Edge.says(TERMS, "PERFECT is one whose PARTS are it, signs aside.");
        NumberDoor x = Edge.town("number 6;number -6;number 28;number 496;number -8128;number 33550336;number 1;number 5;number 7;"
            + "number 12;number 220;number 33550335;number 33550337;number -1;");
        for (int person = 0; person < 14; person++) {
            Edge.due("PERFECT " + x.number(person), x.person(person, 4), person < 6 ? 1 : 0);
        }
    }

    private static void friends() {
        Edge.says(TERMS, "FRIENDS are two whose numbers, signs aside, are unlike, and each the other's PARTS.");
        Edge.due("220 and 284", Edge.town("number 220;number 284;").friends(0), 1);
        Edge.due("signs aside", Edge.town("number -284;number 220;").friends(0), 1);
        Edge.due("6 and -6 are not unlike", Edge.town("number 6;number -6;").friends(0), NONE);
        Edge.due("12 has the PARTS 16, 16 has 15", Edge.town("number 12;number 16;").friends(0), NONE);
        Edge.due("the other way round", Edge.town("number 16;number 12;").friends(0), NONE);
        Edge.due("6 and 28", Edge.town("number 6;number 28;").friends(0), NONE);
        Edge.due("wherever they are", Edge.town(OAK + "number 220 in a;number 9;number 284 in c;").friends(0), 2);
        // 666030256 and 696630544 are friends.
        Edge.due("great ones", Edge.town("number 666030256;number -696630544;").friends(0), 1);
    }

    private static void quarrels() {
        Edge.says(TERMS, "A QUARREL of two: their greatest common factor above 1; QUARRELS are told of two who live in one HOUSE, or "
            + "in NEIGHBOURS.");
        Edge.due("2 and 4 in one", Edge.town(OAK + "number 2 in a;number 4 in a;").quarrel(0), 1);
        Edge.due("factor 1", Edge.town(OAK + "number 2 in a;number 3 in a;").quarrel(0), NONE);
        Edge.due("1 and -1", Edge.town(OAK + "number 1 in a;number -1 in a;").quarrel(0), NONE);
        Edge.due("7 and -7", Edge.town(OAK + "number 7 in a;number -7 in a;").quarrel(0), 1);
        Edge.due("in NEIGHBOURS", Edge.town(OAK + "number 2 in a;number 4 in b;").quarrel(0), 1);
        Edge.due("two apart", Edge.town(OAK + "number 2 in a;number 4 in c;").quarrel(0), NONE);
        Edge.due("by a lane", Edge.town(OAK + "lane a c;number 2 in a;number 4 in c;").quarrel(0), 1);
        Edge.due("past the bridge", Edge.town(OAK + "number 2;number 4;").quarrel(0), NONE);
        Edge.due("one past the bridge", Edge.town(OAK + "number 2 in a;number 4;").quarrel(0), NONE);
        Edge.due("great ones", Edge.town(OAK + "number 999999998 in a;number -999999996 in a;").quarrel(0), 1);
        Edge.due("great ones", Edge.town(OAK + "number 999999998 in a;number 999999999 in a;").quarrel(0), NONE);
    }

    private static void twins() {
        Edge.says(TERMS, "TWINS by m (2 .. 99) are two whose numbers leave the same by m (% as above).");
        NumberDoor x = Edge.town("number 7;number -3;number 2;number -93;number 106;number -999999999;number 999999999;");
        Edge.due("by 2: 7, -3, -93 and both great ones", x.twins(2, 0), 4);
        Edge.due("by 2: 2 and 106", x.twins(2, 2), 1);
        Edge.due("by 5: 7, -3, 2 and -93", x.twins(5, 1), 3);
        Edge.due("by 99: 7 and 106", x.twins(99, 0), 1);
        Edge.due("by 99: -93 leaves 6", x.twins(99, 3), 0);
        Edge.due("by 10: -999999999 leaves 1", x.twins(10, 5), 0);
        Edge.due("by 10: 999999999 leaves 9", x.twins(10, 6), 0);
        Edge.due("by 10: 7, -3 and -93 leave 7", x.twins(10, 0), 2);
        Edge.due("by 9: both great ones leave 0", x.twins(9, 5), 1);
    }

    // ---- sums, rents, debts

    private static void sumsAndCarries() {
        Edge.says(TERMS, "THE SUM of a STREET: all who live there, signs aside, added one by one (by its HOUSES, then by PEOPLE), from 0 on, "
            + "digit by digit from the last one: a CARRY is a place at which both digits and the CARRY from the one ahead are 10 or more.");
        int[][] pairs = {{4, 5, 0}, {5, 5, 1}, {9, 9, 1}, {95, 5, 2}, {94, 5, 0}, {90, 10, 1}, {90, 9, 0}, {909, 91, 3}, {999999999, 1, 9},
            {999999998, 1, 0}, {999999999, 999999998, 9}, {1, 2, 0}};
        for (int[] pair : pairs) {
            NumberDoor x = Edge.town("street s;house a of s rooms 2;number " + pair[0] + " in a;number -" + pair[1] + " in a;");
            String shown = Integer.toString(pair[0] + pair[1]);
            Edge.due(pair[0] + " and " + pair[1] + ", CARRIES", x.sum(0, 20), pair[2]);
            Edge.due(pair[0] + " and " + pair[1] + ", digits", x.sum(0, NONE), shown.length());
            for (int k = 0; k < shown.length(); k++) {
                Edge.due(pair[0] + " and " + pair[1] + ", digit " + k, x.sum(0, k), shown.charAt(shown.length() - 1 - k) - '0');
            }
        }
        NumberDoor one = Edge.town("street s;house a of s rooms 2;number 999999999 in a;number 1;");
        Edge.due("the first is added to 0", one.sum(0, 20), 0);
        Edge.due("those past the bridge are not added", one.sum(0, NONE), 9);
        // 5 + 90 + 5 has two CARRIES behind one another, 5 + 5 + 90 two apart: how many there are in all does not tell the order.
        String street = "street s;house a of s rooms 3;house b of s rooms 3;";
        NumberDoor houses = Edge.town(street + "number 5 in a;number -5 in b;number 90 in a;");
        Edge.due("by its HOUSES: 5 and 90, then 5", houses.sum(0, 21), 2);
        NumberDoor others = Edge.town(street + "number 5 in b;number 90 in b;number -5 in a;");
        Edge.due("by its HOUSES: 5, then 5 and 90", others.sum(0, 21), 1);
        Edge.due("by PEOPLE: 5, 5, 90", Edge.town(street + "number 5 in a;number -5 in a;number 90 in a;").sum(0, 21), 1);
        Edge.due("by PEOPLE: 5, 90, 5", Edge.town(street + "number 5 in a;number 90 in a;number -5 in a;").sum(0, 21), 2);
        NumberDoor moved = Edge.town(street + "number 5;number -5 in a;number 90 in a;");
        moved.move(0, 0);
        Edge.due("by PEOPLE, not as they came in", moved.sum(0, 21), 1);
    }

    private static void carriesBehindOneAnother() {
        Edge.says(27, "all CARRIES (20), the most CARRIES one behind the other in one adding (21).");
        NumberDoor x = Edge.town("street s;house a of s rooms 3;number 99 in a;number 1 in a;number 9900 in a;");
        // 99 + 1: two; 100 + 9900: 0, 0, 10, 10.
        Edge.due("all", x.sum(0, 20), 4);
        Edge.due("in one adding", x.sum(0, 21), 2);
        NumberDoor apart = Edge.town("street s;house a of s rooms 2;number 9090999 in a;number 1010001 in a;");
        Edge.due("all", apart.sum(0, 20), 5);
        Edge.due("3, 1, 1", apart.sum(0, 21), 3);
        NumberDoor late = Edge.town("street s;house a of s rooms 2;number 9990909 in a;number 10101 in a;");
        Edge.due("all", late.sum(0, 20), 5);
        Edge.due("1, 1, 3", late.sum(0, 21), 3);
        NumberDoor most = Edge.town("street s;house a of s rooms 2;number 999999999 in a;number 1 in a;");
        Edge.due("nine", most.sum(0, 21), 9);
        Edge.due("none", Edge.town("street s;house a of s rooms 2;number 4 in a;number 5 in a;").sum(0, 21), 0);
        NumberDoor ten = Edge.town("street s;house a of s rooms 6;number 999999999 in a;number 999999998 in a;number 999999997 in a;"
            + "number 999999996 in a;number 999999995 in a;number 999999994 in a;");
        Edge.due("of six great ones, all", ten.sum(0, 20), 43);
        Edge.due("nine at once", ten.sum(0, 21), 9);
    }

    private static void digitsOfRent(NumberDoor x, int house, String shown) {
        Edge.due("rent(" + house + ", NONE)", x.rent(house, NONE), shown.length());
        for (int k = 0; k < shown.length(); k++) {
            Edge.due("rent(" + house + ", " + k + ")", x.rent(house, k), shown.charAt(shown.length() - 1 - k) - '0');
        }
        Edge.due("rent(" + house + ") behind it", x.rent(house, shown.length()), NONE);
    }

    private static void rents() {
        Edge.says(TERMS, "RENT of a HOUSE: all who live there multiplied, signs aside, exactly; 0 of an empty one.");
        NumberDoor x = Edge.town(TWELVE + "number 999999999 in l;number -999999999 in l;number 999999998 in l;number -999999998 in l;"
            + "number 999999997 in l;number -999999997 in l;number 1 in a;number -1 in b;number -10 in c;number 10 in c;number 5;"
            + "number 65536 in d;number -65536 in d;number 1000 in e;number 999983 in e;");
        BigInteger most = BigInteger.ONE;
        for (int number = 999999997; number <= 999999999; number++) {
            most = most.multiply(BigInteger.valueOf(number).pow(2));
        }
        digitsOfRent(x, 11, most.toString());
        digitsOfRent(x, 0, "1");
        digitsOfRent(x, 1, "1");
        digitsOfRent(x, 2, "100");
        digitsOfRent(x, 3, "4294967296");
        digitsOfRent(x, 4, "999983000");
        digitsOfRent(x, 5, "0");
    }

    private static void nets() {
        Edge.says(TERMS, "NET of a HOUSE: what others owe it less what it owes.");
        NumberDoor x = Edge.town(OAK + "owes a b 9999;owes a b 9999;owes b a 1;owes c a 5;");
        Edge.due("a", x.net(0), -19992);
        Edge.due("b", x.net(1), 19997);
        Edge.due("c", x.net(2), -5);
        Edge.due("without DEBTS", Edge.town(OAK).net(0), 0);
        Edge.due("settled", Edge.town(OAK + "owes a b 7;owes b a 7;").net(0), 0);
        Edge.due("the most", Edge.town(OAK + Edge.times("owes a b 9999;", 16)).net(1), 159984);
        Edge.due("the least", Edge.town(OAK + Edge.times("owes a b 9999;", 16)).net(0), -159984);
        Edge.due("NET -1", Edge.town(OAK + "owes a b 1;").net(0), -1);
    }

    private static void struckOut() {
        Edge.says(TERMS, "STRUCK OUT: the fewest payments from HOUSE to HOUSE by which all NETS are settled.");
        Edge.due("without HOUSES", new NumberDoor().struck(), 0);
        Edge.due("without DEBTS", Edge.town(OAK).struck(), 0);
        Edge.due("a circle", Edge.town(OAK + "owes a b 5;owes b c 5;owes c a 5;").struck(), 0);
        Edge.due("one", Edge.town(OAK + "owes a b 1;").struck(), 1);
        Edge.due("two of one sort", Edge.town(OAK + "owes a b 1;owes a b 1;").struck(), 1);
        Edge.due("through one who is settled", Edge.town(OAK + "owes a b 5;owes b c 5;").struck(), 1);
        Edge.due("two to one", Edge.town(OAK + "owes a b 5;owes c b 5;").struck(), 2);
        Edge.due("one to eleven", Edge.town(TWELVE + "owes a b 1;owes a c 2;owes a d 4;owes a e 8;owes a f 16;owes a g 32;"
            + "owes a h 64;owes a i 128;owes a j 256;owes a k 512;owes a l 1024;").struck(), 11);
        Edge.due("six pairs", Edge.town(TWELVE + "owes a b 1;owes c d 2;owes e f 3;owes g h 4;owes i j 5;owes k l 6;").struck(), 6);
        Edge.due("four threes", Edge.town(TWELVE + "owes a b 1;owes a c 2;owes d e 10;owes d f 20;owes g h 100;owes g i 200;"
            + "owes j k 1000;owes j l 2000;").struck(), 8);
        // Nets -3 -3 -4 2 2 6: {-4, 2, 2} and {-3, -3, 6}; the greatest with the greatest would take five.
        Edge.due("the fewest", Edge.town(TWELVE + "owes a f 3;owes b f 3;owes c d 2;owes c e 2;").struck(), 4);
    }

    // ---- hidden ones, images

    private static NumberDoor tells(String bytes, int rows) {
        NumberDoor x = new NumberDoor();
        Edge.put(x, bytes);
        Edge.due("tell()", x.tell(), rows);
        return x;
    }

    private static void hiddenRows() {
        Edge.says(TERMS, "HIDDEN: 2 to 4 numbers from 1 to most (24 at most), for each two of them told whether they QUARREL: rows of numbers by "
            + "which it is just so.");
        tells("\2\1\0", 1);
        tells("\2\1\1", 0);
        tells("\2\2\0", 3);
        tells("\2\2\1", 1);
        tells("\2\30\1", 217);
        tells("\2\30\0", 24 * 24 - 217);
        tells("\4\30\0\0\0\0\0\0", 37365);
        tells("\4\1\0\0\0\0\0\0", 1);
        tells("\4\2\1\1\1\1\1\1", 1);
        tells("\3\1\0\0\1", 0);
        for (int told = 0; told < 64; told++) {
            StringBuilder bytes = new StringBuilder("\4\13");
            for (int pair = 0; pair < 6; pair++) {
                bytes.append((char) (told >> pair & 1));
            }
            tells(bytes.toString(), rowsByHand(told, 11));
        }
    }

    private static int rowsByHand(int told, int most) {
        int rows = 0;
        int[] row = new int[4];
        for (int all = 0; all < most * most * most * most; all++) {
            int rest = all;
            for (int k = 0; k < 4; k++) {
                row[k] = rest % most + 1;
                rest /= most;
            }
            int pairs = 0;
            int at = 0;
            for (int one = 0; one < 4; one++) {
                for (int other = one + 1; other < 4; other++) {
                    pairs |= quarrel(row[one], row[other]) ? 1 << at : 0;
                    at++;
                }
            }
            rows += pairs == told ? 1 : 0;
        }
        return rows;
    }

    private static boolean quarrel(int one, int other) {
        for (int factor = 2; factor <= one; factor++) {
            if (one % factor == 0 && other % factor == 0) {
                return true;
            }
        }
        return false;
    }

    private static void imageIs(NumberDoor x, int... bytes) {
        Edge.due("image()", x.image(), bytes.length);
        for (int k = 0; k < bytes.length; k++) {
            Edge.due("octet(" + k + ")", x.octet(k), bytes[k]);
        }
        Edge.due("octet behind it", x.octet(bytes.length), NONE);
    }

    private static void anImage() {
        Edge.says(TERMS, "AN IMAGE: YEAR (two bytes, the higher first), 1 by night, else 0, how many PEOPLE; for each the number (four bytes, the "
            + "highest first), the HOUSE and 1 (0: PAST THE BRIDGE); last a byte: all ahead from 73 on, c = (5 c + it) mod 251.");
        imageIs(new NumberDoor(), 0, 0, 0, 0, 194);
        NumberDoor night = new NumberDoor();
        night.night(true);
        imageIs(night, 0, 0, 1, 0, 199);
        NumberDoor year = new NumberDoor();
        Edge.put(year, "\47\17\0\0" + (char) Edge.checkOf("\47\17\0\0"));
        Edge.due("on()", year.on(), true);
        imageIs(year, 39, 15, 0, 0, Edge.checkOf("\47\17\0\0"));
        NumberDoor x = Edge.town(TWELVE + "number -1 in l;number 999999999 in a;number -999999999;number 16909060 in b;");
        String ahead = "\0\0\0\4\u00ff\u00ff\u00ff\u00ff\14\u003b\u009a\u00c9\u00ff\1\u00c4\u0065\u0036\1\0\1\2\3\4\2";
        int[] want = new int[25];
        for (int k = 0; k < 24; k++) {
            want[k] = ahead.charAt(k);
        }
        want[24] = Edge.checkOf(ahead);
        imageIs(x, want);
    }

    // ---- promises 21 to 26

    private static void p21Weds() {
        Edge.says(21, "COUPLES: how many (k NONE), whom one of the PEOPLE weds (20: nobody).");
        couples(new NumberDoor(), 0);
        couples(Edge.town("number 1;wed all;"), 0, 20);
        couples(Edge.town("number 1;number 2;wed all;"), 1, 1, 0);
        NumberDoor x = Edge.town(Edge.times("number #;", 16) + "wed me+other=31;");
        Edge.due("weds(NONE)", x.weds(NONE), 1);
        Edge.due("weds(14)", x.weds(14), 15);
        Edge.due("weds(15)", x.weds(15), 14);
        Edge.due("weds(0)", x.weds(0), 20);
        NumberDoor ends = Edge.town(Edge.times("number #;", 16) + "wed me+other=17 and me*other=16;");
        Edge.due("the first and the last", ends.weds(0), 15);
        Edge.due("the last and the first", ends.weds(15), 0);
    }

    private static void p21NoneForOthers() {
        Edge.says(21, "(20: nobody). NONE for others.");
        NumberDoor x = Edge.town("number 1;number 2;wed all;");
        Edge.due("weds(2)", x.weds(2), NONE);
        Edge.due("weds(15)", x.weds(15), NONE);
        Edge.due("weds(16)", Edge.town(Edge.times("number #;", 16) + "wed all;").weds(16), NONE);
        Edge.due("weds(20)", x.weds(20), NONE);
        for (int wild : Edge.WILD) {
            Edge.due("weds(" + wild + ")", x.weds(wild), NONE);
        }
    }

    private static void p22Parts() {
        Edge.says(22, "PARTS of one of the PEOPLE: its digits (k NONE), digit k from the last one on.");
        NumberDoor x = Edge.town(Edge.times("number #;", 12) + "number 10000;number -12345678;number 720720;number 999999998;");
        long[] want = {0, 1, 1, 3, 1, 6, 1, 7, 4, 8, 1, 16};
        for (int person = 0; person < 12; person++) {
            partsAre(x, person, want[person]);
        }
        partsAre(x, 12, 31L * 781 - 10000);
        // 12345678 is 2 3^2 47 14593.
        partsAre(x, 13, 3L * 13 * 48 * 14594 - 12345678);
        partsAre(x, 14, 31L * 13 * 6 * 8 * 12 * 14 - 720720);
        // 999999998 is 2 691 723589.
        partsAre(x, 15, 3L * 692 * 723590 - 999999998);
    }

    private static void p22OfTheNumberThatIsThere() {
        Edge.says(22, "PARTS of one of the PEOPLE");
        NumberDoor x = Edge.town("number 12;number 28;");
        partsAre(x, 0, 16);
        Edge.put(x, "number 28;number 220;");
        x.town();
        partsAre(x, 0, 28);
        partsAre(x, 1, 284);
        Edge.put(x, Edge.image(0, 0, -12, 0));
        x.on();
        partsAre(x, 0, 16);
        // These look prime by many a short test; the last one is 2 times a prime.
        NumberDoor hard = Edge.town("number 721801;number 916327;number 2269093;number 932148253;number 999999874;");
        for (int person = 0; person < 5; person++) {
            partsAre(hard, person, partsByHand(hard.number(person)));
            Edge.due("prime " + hard.number(person), hard.person(person, 3), 0);
        }
    }

    private static long partsByHand(int number) {
        long all = 0;
        for (int factor = 1; factor <= number / factor; factor++) {
            if (number % factor == 0) {
                all += factor;
                all += factor > 1 && factor != number / factor ? number / factor : 0;
            }
        }
        return number == 1 ? 0 : all;
    }

    private static void p22NoneSuch() {
        Edge.says(22, "NONE when there is none such.");
        NumberDoor x = Edge.town("number 1;number 12;");
        Edge.due("digit 1 of 0", x.parts(0, 1), NONE);
        Edge.due("digit 2 of 16", x.parts(1, 2), NONE);
        Edge.due("parts(2, NONE)", x.parts(2, NONE), NONE);
        Edge.due("parts(2, 0)", x.parts(2, 0), NONE);
        Edge.due("parts(-1, NONE)", x.parts(-1, NONE), NONE);
        for (int wild : Edge.WILD) {
            Edge.due("parts(" + wild + ", NONE)", x.parts(wild, NONE), NONE);
            Edge.due("parts(1, " + wild + ")", x.parts(1, wild), NONE);
        }
    }

    private static void p23Friends() {
        Edge.says(23, "The k-th two FRIENDS among the PEOPLE, by the lesser, then the other: 100 times the one and the other; NONE when there are "
            + "none such.");
        NumberDoor x = Edge.town("number 284;number 1210;number 220;number -220;number 1184;number -284;number 1;");
        int[] want = {2, 3, 104, 205, 305};
        for (int k = 0; k < want.length; k++) {
            Edge.due("friends(" + k + ")", x.friends(k), want[k]);
        }
        Edge.due("friends(5)", x.friends(5), NONE);
        Edge.due("friends(-1)", x.friends(-1), NONE);
        for (int wild : Edge.WILD) {
            Edge.due("friends(" + wild + ")", x.friends(wild), NONE);
        }
        NumberDoor last = Edge.town(Edge.times("number #;", 14) + "number 220;number 284;");
        Edge.due("the last two", last.friends(0), 1415);
        Edge.due("none", Edge.town("number 220;").friends(0), NONE);
    }

    private static void p24Factor() {
        Edge.says(24, "The greatest common factor of two of the PEOPLE (wherever they are); NONE when there are none such.");
        NumberDoor x = Edge.town(OAK + "number 12 in a;number -18;number 1;number 999999999 in c;number -999999999;number 7;");
        Edge.due("12 and -18", x.factor(0, 1), 6);
        Edge.due("-18 and 12", x.factor(1, 0), 6);
        Edge.due("-18 twice", x.factor(1, 1), 18);
        Edge.due("with 1", x.factor(3, 2), 1);
        Edge.due("the greatest", x.factor(3, 4), 999999999);
        Edge.due("the last twice", x.factor(5, 5), 7);
        Edge.due("factor(6, 0)", x.factor(6, 0), NONE);
        Edge.due("factor(0, 6)", x.factor(0, 6), NONE);
        Edge.due("factor(-1, 0)", x.factor(-1, 0), NONE);
        Edge.due("factor(0, -1)", x.factor(0, -1), NONE);
        for (int wild : Edge.WILD) {
            Edge.due("factor(" + wild + ", 0)", x.factor(wild, 0), NONE);
            Edge.due("factor(0, " + wild + ")", x.factor(0, wild), NONE);
        }
    }

    private static void p25Quarrel() {
        Edge.says(25, "The k-th of the QUARRELS, by the lesser, then the other: 100 times the one and the other; NONE when there are none such.");
        NumberDoor x = Edge.town(OAK + "number 6 in a;number 35;number 10 in a;number 15 in b;number -4 in b;number 9 in c;");
        // a is beside b, b beside c: 0-2, 0-3, 0-4, 2-3, 2-4, 3-5.
        int[] want = {2, 3, 4, 203, 204, 305};
        for (int k = 0; k < want.length; k++) {
            Edge.due("quarrel(" + k + ")", x.quarrel(k), want[k]);
        }
        Edge.due("quarrel(6)", x.quarrel(6), NONE);
        Edge.due("quarrel(-1)", x.quarrel(-1), NONE);
        for (int wild : Edge.WILD) {
            Edge.due("quarrel(" + wild + ")", x.quarrel(wild), NONE);
        }
        NumberDoor full = Edge.town("street s;house a of s rooms 6;house b of s rooms 6;house c of s rooms 6;lane a c;"
            + Edge.times("number #0 in a;", 6) + Edge.times("number -#0 in b;", 6) + Edge.times("number #000 in c;", 4));
        for (int one = 0, k = 0; one < 16; one++) {
            for (int other = one + 1; other < 16; other++, k++) {
                Edge.due("quarrel(" + k + ") of 120", full.quarrel(k), 100 * one + other);
            }
        }
        Edge.due("quarrel(120)", full.quarrel(120), NONE);
    }

    private static void p26Twins() {
        Edge.says(26, "TWINS by m: how many unlike remainders there are (person NONE), how many are one's TWINS (he aside).");
        NumberDoor x = Edge.town(Edge.times("number #;", 16));
        int[][] want = {{2, 2, 7}, {3, 3, 5}, {15, 15, 1}, {16, 16, 0}, {17, 16, 0}, {99, 16, 0}};
        for (int[] one : want) {
            Edge.due("twins(" + one[0] + ", NONE)", x.twins(one[0], NONE), one[1]);
            Edge.due("twins(" + one[0] + ", 0)", x.twins(one[0], 0), one[2]);
        }
        Edge.due("the last one", x.twins(15, 15), 1);
        Edge.due("the one in the middle", x.twins(15, 7), 0);
        Edge.due("he alone", Edge.town("number 5;").twins(2, 0), 0);
        Edge.due("one remainder", Edge.town("number 5;").twins(2, NONE), 1);
        Edge.due("nobody", new NumberDoor().twins(99, NONE), 0);
        Edge.due("all alike", Edge.town(Edge.times("number #00;", 16)).twins(50, NONE), 1);
        Edge.due("all his TWINS", Edge.town(Edge.times("number -#00;", 16)).twins(50, 9), 15);
    }

    private static void p26None() {
        Edge.says(26, "NONE when there is none such, or m can't be.");
        NumberDoor x = Edge.town("number 5;number 6;");
        for (int person = NONE; person < 2; person++) {
            Edge.due("by 1", x.twins(1, person), NONE);
            Edge.due("by 0", x.twins(0, person), NONE);
            Edge.due("by -2", x.twins(-2, person), NONE);
            Edge.due("by 100", x.twins(100, person), NONE);
            for (int wild : Edge.WILD) {
                Edge.due("by " + wild, x.twins(wild, person), NONE);
            }
        }
        Edge.due("by 2", x.twins(2, NONE), 2);
        Edge.due("by 99", x.twins(99, 1), 0);
        Edge.due("twins(2, 2)", x.twins(2, 2), NONE);
        for (int wild : Edge.WILD) {
            Edge.due("twins(2, " + wild + ")", x.twins(2, wild), NONE);
        }
    }

    // ---- promises 27 to 30

    private static void p27Sum() {
        Edge.says(27, "THE SUM of a STREET: its digits (what NONE), digit what (0 .. 19) from the last one on");
        NumberDoor x = Edge.town("street s;street t;street u;street v;" + Edge.times("house $ of v rooms 6;", 3)
            + "house d of s rooms 1;house e of t rooms 1;" + Edge.times("number 99999999# in a;", 6)
            + Edge.times("number -99999999# in b;", 6) + Edge.times("number 99999998# in c;", 2) + "number -40 in d;number 5;");
        long total = 0;
        for (int i = 1; i <= 6; i++) {
            total += 2 * (999999990L + i);
        }
        total += 999999981L + 999999982L;
        String shown = Long.toString(total);
        Edge.due("the greatest, digits", x.sum(3, NONE), shown.length());
        for (int k = 0; k < shown.length(); k++) {
            Edge.due("digit " + k, x.sum(3, k), shown.charAt(shown.length() - 1 - k) - '0');
        }
        for (int k = shown.length(); k < 20; k++) {
            Edge.due("digit " + k + ", behind it", x.sum(3, k), NONE);
        }
        Edge.due("40, digits", x.sum(0, NONE), 2);
        Edge.due("40, digit 0", x.sum(0, 0), 0);
        Edge.due("40, digit 1", x.sum(0, 1), 4);
        Edge.due("40, digit 2", x.sum(0, 2), NONE);
        for (int street = 1; street <= 2; street++) {
            Edge.due("nobody, digits", x.sum(street, NONE), 1);
            Edge.due("nobody, digit 0", x.sum(street, 0), 0);
            Edge.due("nobody, digit 1", x.sum(street, 1), NONE);
            Edge.due("nobody, CARRIES", x.sum(street, 20), 0);
            Edge.due("nobody, CARRIES in one adding", x.sum(street, 21), 0);
        }
    }

    private static void p27NoneSuch() {
        Edge.says(27, "NONE when there is none such, or for others.");
        NumberDoor x = Edge.town("street s;street t;house a of s rooms 2;number 95 in a;number 7 in a;");
        Edge.due("sum(0, 22)", x.sum(0, 22), NONE);
        Edge.due("sum(0, 19)", x.sum(0, 19), NONE);
        Edge.due("sum(0, -2)", x.sum(0, -2), NONE);
        for (int what : new int[] {NONE, 0, 20, 21}) {
            Edge.due("sum(2, " + what + ")", x.sum(2, what), NONE);
            Edge.due("sum(-1, " + what + ")", x.sum(-1, what), NONE);
            for (int wild : Edge.WILD) {
                Edge.due("sum(" + wild + ", " + what + ")", x.sum(wild, what), NONE);
            }
        }
        for (int wild : Edge.WILD) {
            Edge.due("sum(0, " + wild + ")", x.sum(0, wild), NONE);
        }
    }

    private static void p28Rent() {
        Edge.says(28, "RENT of a HOUSE: its digits (k NONE), digit k from the last one on. NONE when there is none such.");
        NumberDoor x = Edge.town(OAK + "number -25 in a;number 4 in a;number 999999999 in b;number -999999998 in b;number 30;");
        digitsOfRent(x, 0, "100");
        digitsOfRent(x, 1, BigInteger.valueOf(999999999).multiply(BigInteger.valueOf(999999998)).toString());
        digitsOfRent(x, 2, "0");
        x.move(4, 2);
        digitsOfRent(x, 2, "30");
        Edge.due("rent(0, -2)", x.rent(0, -2), NONE);
        for (int k = NONE; k < 2; k++) {
            Edge.due("rent(3, " + k + ")", x.rent(3, k), NONE);
            Edge.due("rent(-1, " + k + ")", x.rent(-1, k), NONE);
            for (int wild : Edge.WILD) {
                Edge.due("rent(" + wild + ", " + k + ")", x.rent(wild, k), NONE);
            }
        }
        for (int wild : Edge.WILD) {
            Edge.due("rent(0, " + wild + ")", x.rent(0, wild), NONE);
        }
        Edge.due("rent(0, 63)", x.rent(0, 63), NONE);
        Edge.due("rent(0, 64)", x.rent(0, 64), NONE);
    }

    private static void p29Net() {
        Edge.says(29, "NET of a HOUSE; NOBODY when there is none such.");
        NumberDoor x = Edge.town(TWELVE + "owes a l 1;");
        Edge.due("net(0), which is -1 and not NONE", x.net(0), -1);
        Edge.due("net(11)", x.net(11), 1);
        Edge.due("net(12)", x.net(12), NOBODY);
        Edge.due("net(-1)", x.net(-1), NOBODY);
        for (int wild : Edge.WILD) {
            Edge.due("net(" + wild + ")", x.net(wild), NOBODY);
        }
        Edge.due("of a new object", new NumberDoor().net(0), NOBODY);
    }

    private static void p30Struck() {
        Edge.says(30, "STRUCK OUT: how many payments.");
        Edge.due("a new object", new NumberDoor().struck(), 0);
        NumberDoor x = Edge.town(TWELVE + "owes a b 5;owes c d 5;owes b e 2;");
        // Nets -5 3 -5 5 2.
        Edge.due("c pays d, a pays b and e", x.struck(), 3);
        Edge.put(x, TWELVE + "owes a b 9999;");
        x.town();
        Edge.due("another town", x.struck(), 1);
        Edge.put(x, TWELVE);
        x.town();
        Edge.due("a town without DEBTS", x.struck(), 0);
    }

    // ---- promises 31, 32

    private static void p31Tell() {
        Edge.says(31, "The tape (it goes, refused or not) tells of HIDDEN ones: the first byte how many (2 to 4), the second one most (1 .. 24), then "
            + "for each two (0 and 1, 0 and 2, .., 1 and 2, ..) 1 if they QUARREL, else 0: how many rows there are");
        NumberDoor x = tells("\2\1\0", 1);
        Edge.due("the tape went", x.end(1), false);
        tells("\4\30\0\0\0\0\0\0", 37365);
        // 0 quarrels with both of two who don't: 6 with 2 or 4 and 3, both ways.
        NumberDoor first = tells("\3\6\1\1\0", 4);
        Edge.due("6 2 3", first.hidden(0), 6);
        NumberDoor middle = tells("\3\6\1\0\1", 4);
        Edge.due("2 6 3", middle.hidden(1), 6);
        NumberDoor last = tells("\3\6\0\1\1", 4);
        Edge.due("2 3 6", last.hidden(2), 6);
        // A path 0-1, 1-2, 2-3 of four; 0-1 stands first, 1-2 fourth, 2-3 sixth.
        NumberDoor path = tells("\4\30\1\0\0\1\0\1", rowsByHand(0b101001, 24));
        int[] least = {2, 6, 15, 5};
        for (int k = 0; k < 4; k++) {
            Edge.due("hidden(" + k + ")", path.hidden(k), least[k]);
        }
        NumberDoor none = tells("\2\1\1", 0);
        Edge.due("no rows is not refused", none.status(5), 0);
        Edge.due("the tape went", none.end(1), false);
    }

    private static void p31Refused() {
        Edge.says(31, "NONE, refused (5), all staying, when it is none such.");
        String[] wrongOnes = {"", "\2", "\2\7", "\0\7", "\0\7\0", "\1\7", "\1\7\0", "\5\7\0\0\0\0\0\0\0\0\0\0", "\2\0\0", "\2\31\0", "\2\u00ff\0",
            "\u00ff\7\0", "\2\7\2", "\2\7\u00ff", "\2\7\0\0", "\3\7\0\0", "\3\7\0\0\0\0", "\3\7\0\0\2", "\4\7\0\0\0\0\0", "\4\7\0\0\0\0\0\0\0",
            "\4\30\0\0\0\0\0\2", "\4\31\0\0\0\0\0\0"};
        for (String bytes : wrongOnes) {
            Edge.refused("tell() of " + bytes.length() + " bytes", () -> {
                NumberDoor x = Edge.busy();
                Edge.put(x, bytes);
                return x;
            }, x -> x.tell(), NONE, 5, 0);
        }
    }

    private static void p32Hidden() {
        Edge.says(32, "Of the rows of HIDDEN ones: number k of the least one (by numbers, one behind the other); NONE when there is none such.");
        Edge.due("nothing told", new NumberDoor().hidden(0), NONE);
        NumberDoor x = tells("\2\30\1", 217);
        Edge.due("hidden(0)", x.hidden(0), 2);
        Edge.due("hidden(1)", x.hidden(1), 2);
        Edge.due("hidden(2)", x.hidden(2), NONE);
        Edge.due("hidden(-1)", x.hidden(-1), NONE);
        for (int wild : Edge.WILD) {
            Edge.due("hidden(" + wild + ")", x.hidden(wild), NONE);
        }
        Edge.put(x, "\4\30\0\0\0\0\0\0");
        x.tell();
        for (int k = 0; k < 4; k++) {
            Edge.due("of four ones, " + k, x.hidden(k), 1);
        }
        Edge.due("hidden(4)", x.hidden(4), NONE);
        Edge.put(x, "\3\6\1\1\0");
        x.tell();
        int[] least = {6, 2, 3, NONE};
        for (int k = 0; k < 4; k++) {
            Edge.due("by numbers, one behind the other, " + k, x.hidden(k), least[k]);
        }
        Edge.put(x, "\2\1\1");
        x.tell();
        Edge.due("no rows", x.hidden(0), NONE);
        Edge.put(x, "\2\2\1");
        x.tell();
        Edge.due("one row", x.hidden(0), 2);
        Edge.due("one row", x.hidden(1), 2);
        NumberDoor stays = Edge.busy();
        stays.years(1);
        stays.undo();
        Edge.put(stays, Edge.image(0, 0));
        Edge.due("on()", stays.on(), true);
        Edge.due("other calls leave it", stays.hidden(0), 2);
    }

    // ---- promises 33 to 36

    private static void p33Image() {
        Edge.says(33, "AN IMAGE is written: how many bytes.");
        Edge.due("nobody", new NumberDoor().image(), 5);
        Edge.due("one", Edge.town("number 1;").image(), 10);
        Edge.due("sixteen", Edge.town(Edge.times("number #;", 16)).image(), 85);
        NumberDoor x = Edge.busy();
        Edge.due("three", x.image(), 20);
        Edge.due("no ACT", x.has(10), 3);
        Edge.due("the tape stays", x.town(), 1);
    }

    private static void p34Octet() {
        Edge.says(34, "Byte k of the latest image(); NONE when there is none such.");
        NumberDoor x = Edge.town(Edge.times("number #;", 16));
        Edge.due("ahead of any", x.octet(0), NONE);
        x.image();
        Edge.due("octet(0)", x.octet(0), 0);
        Edge.due("octet(3)", x.octet(3), 16);
        Edge.due("octet(82)", x.octet(82), 16);
        Edge.due("octet(84) is the last", x.octet(84) >= 0, true);
        Edge.due("octet(85)", x.octet(85), NONE);
        Edge.due("octet(-1)", x.octet(-1), NONE);
        for (int wild : Edge.WILD) {
            Edge.due("octet(" + wild + ")", x.octet(wild), NONE);
        }
        Edge.put(x, "number 7;");
        x.town();
        x.night(true);
        Edge.due("the latest one stays until the next", x.octet(3), 16);
        Edge.due("and is no shorter", x.octet(84) >= 0, true);
        x.image();
        Edge.due("octet(3)", x.octet(3), 1);
        Edge.due("octet(2)", x.octet(2), 1);
        Edge.due("octet(9) is the last", x.octet(9) >= 0, true);
        Edge.due("octet(10), of the one ahead", x.octet(10), NONE);
        NumberDoor great = Edge.town("number -1;");
        great.image();
        Edge.due("a byte is 0 to 255", great.octet(4), 255);
    }

    private static void p35On() {
        Edge.says(35, "The tape (it goes, refused or not) is AN IMAGE of this TOWN: true, YEAR, night, PEOPLE are as it tells, no ACT can be undone");
        NumberDoor x = Edge.busy();
        x.move(0, NONE);
        Edge.put(x, Edge.image(9999, 1, 999999999, 1, -999999999, 1, 1, 2, -1, 0));
        Edge.due("on()", x.on(), true);
        Edge.due("the tape went", x.end(1), false);
        int[] want = {1, 2, 0, 4, 1, 2, 1, 1, 9999, 1, 0, 77};
        for (int what = 0; what < want.length; what++) {
            Edge.due("has(" + what + ")", x.has(what), want[what]);
        }
        int[] numbers = {999999999, -999999999, 1, -1};
        int[] homes = {0, 0, 1, NONE};
        for (int person = 0; person < 4; person++) {
            Edge.due("number(" + person + ")", x.number(person), numbers[person]);
            Edge.due("home of " + person, x.person(person, 0), homes[person]);
        }
        Edge.due("undo()", x.undo(), false);
        Edge.due("years(1) in YEAR 9999", x.years(1), NONE);
        Edge.due("HIDDEN stays", x.hidden(0), 2);
        Edge.due("the latest image stays", x.octet(3), 3);
        Edge.put(x, Edge.image(0, 0));
        Edge.due("nobody, by day, YEAR 0", x.on(), true);
        Edge.due("PEOPLE", x.has(3), 0);
        Edge.due("night", x.has(9), 0);
        Edge.due("YEAR", x.has(8), 0);
        NumberDoor sixteen = Edge.town(TWELVE);
        int[] told = new int[32];
        for (int i = 0; i < 16; i++) {
            told[2 * i] = i + 1;
            told[2 * i + 1] = i < 6 ? 12 : i < 12 ? 1 : 0;
        }
        Edge.put(sixteen, Edge.image(256, 0, told));
        Edge.due("sixteen, six in the last house", sixteen.on(), true);
        Edge.due("has(3)", sixteen.has(3), 16);
        Edge.due("house(11, 2)", sixteen.house(11, 2), 6);
        Edge.due("YEAR", sixteen.has(8), 256);
        NumberDoor again = Edge.busy();
        again.years(9);
        int length = again.image();
        StringBuilder bytes = new StringBuilder();
        for (int k = 0; k < length; k++) {
            bytes.append((char) again.octet(k));
        }
        NumberDoor copy = Edge.busy();
        Edge.put(copy, bytes.toString());
        Edge.due("its own image", copy.on(), true);
        Edge.due("image()", copy.image(), length);
        for (int k = 0; k < length; k++) {
            Edge.due("octet(" + k + ")", copy.octet(k), bytes.charAt(k));
        }
    }

    private static String broken(String image, int at) {
        StringBuilder bytes = new StringBuilder(image);
        bytes.setCharAt(at, (char) (bytes.charAt(at) ^ 1));
        return bytes.toString();
    }

    private static void p35Refused() {
        Edge.says(35, "false, refused (5), all staying, if it is none such: YEAR 9999 at most, 0 or 1, 16 PEOPLE at most, numbers of 9 digits at most, "
            + "not 0, unlike ones; HOUSES that there are, no more in one than it has rooms.");
        String good = Edge.image(3, 1, 5, 1, 6, 2);
        int[] seventeen = new int[34];
        for (int i = 0; i < 17; i++) {
            seventeen[2 * i] = i + 1;
        }
        String counted = good.substring(0, 3) + "\1" + good.substring(4, 14);
        String one = good.substring(0, 3) + "\3" + good.substring(4, 14);
        String[] wrongOnes = {"", good.substring(0, 4), good.substring(0, 5), good.substring(0, 14), good + "\0", good + good,
            broken(good, 14), broken(good, 0), broken(good, 1), broken(good, 2), broken(good, 7), broken(good, 8), Edge.image(10000, 0),
            Edge.image(65535, 0), Edge.image(0, 2), Edge.image(0, 255), Edge.image(0, 0, seventeen), Edge.image(0, 0, 1000000000, 0),
            Edge.image(0, 0, -1000000000, 0), Edge.image(0, 0, Integer.MAX_VALUE, 0), Edge.image(0, 0, Integer.MIN_VALUE, 0),
            Edge.image(0, 0, 0, 0), Edge.image(0, 0, 5, 0, 0, 1), Edge.image(0, 0, 5, 0, 5, 0), Edge.image(0, 0, 5, 0, 6, 1, 5, 2),
            Edge.image(0, 0, 5, 3), Edge.image(0, 0, 5, 255), Edge.image(0, 0, 5, 2, 6, 2), Edge.image(0, 0, 5, 1, 6, 1, 7, 1),
            counted + (char) Edge.checkOf(counted), one + (char) Edge.checkOf(one)};
        for (int i = 0; i < wrongOnes.length; i++) {
            String bytes = wrongOnes[i];
            Edge.refused("on() of wrong image " + i, () -> {
                NumberDoor x = Edge.busy();
                Edge.put(x, bytes);
                return x;
            }, x -> x.on() ? 1 : 0, 0, 5, 0);
        }
        String[] goodOnes = {good, Edge.image(9999, 0), Edge.image(0, 0, 5, 1, 6, 1, -7, 2), Edge.image(0, 0, 5, 0, -5, 0),
            Edge.image(0, 1, 999999999, 0, -999999999, 0)};
        for (String bytes : goodOnes) {
            NumberDoor x = Edge.busy();
            Edge.put(x, bytes);
            Edge.due("on() of a good image", x.on(), true);
        }
        NumberDoor none = new NumberDoor();
        Edge.put(none, Edge.image(0, 0, 5, 1));
        Edge.due("without HOUSES", none.on(), false);
    }

    private static void p36Status() {
        Edge.says(36, "How many were refused: 0 feed(), end(); 1 town(); 2 move(), night(); 3 years(); 4 undo(); 5 seed(), tell(), on().");
        NumberDoor x = new NumberDoor();
        int[] counts = new int[6];
        for (int round = 0; round < 3; round++) {
            for (int sort = 0; sort < 9; sort++) {
                counts[refuse(x, sort)]++;
                for (int what = 0; what < 6; what++) {
                    Edge.due("behind a refused call of sort " + sort + " status(" + what + ")", x.status(what), counts[what]);
                }
            }
        }
        NumberDoor full = new NumberDoor();
        for (int i = 0; i < 85; i++) {
            full.feed(0, 0, 0, 0, 0);
        }
        Edge.due("five feeds too many", full.status(0), 5);
        NumberDoor none = Edge.busy();
        none.has(99);
        none.letter(9, 9, 9);
        none.house(99, 0);
        none.number(99);
        none.person(99, 0);
        none.breach(99, 0);
        none.may(99, 99);
        none.placed(99);
        none.holds(99, 0, 0);
        none.weds(99);
        none.parts(99, 0);
        none.friends(99);
        none.factor(99, 0);
        none.quarrel(99);
        none.twins(0, 0);
        none.sum(99, 0);
        none.rent(99, 0);
        none.net(99);
        none.hidden(99);
        none.octet(99);
        none.fault(99);
        none.status(99);
        for (int what = 0; what < 6; what++) {
            Edge.due("what is only asked is not refused, status(" + what + ")", none.status(what), 0);
        }
    }

    /** One call that is refused, and where it is counted. */
    private static int refuse(NumberDoor x, int sort) {
        switch (sort) {
            case 0: x.end(1); return 0;
            case 1: Edge.put(x, "!"); x.town(); return 1;
            case 2: x.move(0, 0); return 2;
            case 3: x.night(false); return 2;
            case 4: x.years(0); return 3;
            case 5: x.undo(); return 4;
            case 6: x.seed(-1); return 5;
            case 7: x.tell(); return 5;
            default: x.on(); return 5;
        }
    }

    private static void p36NoneForOthers() {
        Edge.says(36, "5 seed(), tell(), on(). NONE for others.");
        NumberDoor x = new NumberDoor();
        Edge.due("status(6)", x.status(6), NONE);
        Edge.due("status(-1)", x.status(-1), NONE);
        for (int wild : Edge.WILD) {
            Edge.due("status(" + wild + ")", x.status(wild), NONE);
        }
    }
}
