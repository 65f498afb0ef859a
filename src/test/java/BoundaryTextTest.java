/** Boundary cases of the text, sentence by sentence: the terms under I, promises 1 to 5. */
public final class BoundaryTextTest {
    private static final int NONE = Edge.NONE;
    private static final int NOBODY = Edge.NOBODY;
    private static final int TERMS = Edge.TERMS;
    private static final String OAK = "street oak;house a of oak rooms 2;house b of oak rooms 3;house c of oak rooms 1;";
    private static final String TWELVE = "street oak;" + Edge.times("house $ of oak rooms 6;", 12);
    private static final String[] OWN_WORDS = {"street", "house", "of", "rooms", "lane", "number", "in", "law", "each",
        "beside", "within", "wed", "owes", "fire", "me", "other", "many", "square", "prime", "or", "and", "not", "all",
        "min", "max", "gcd"};
    /** A town in which each word, number and sign of the language stands. */
    private static final String[] PARTS = {"street", "s", ";", "house", "a", "of", "s", "rooms", "2", ";", "street", "zz",
        ";", "house", "abcdef", "of", "zz", "rooms", "06", ";", "lane", "a", "abcdef", ";", "number", "-", "7", "in",
        "abcdef", ";", "number", "123456789", ";", "number", "8", "in", "a", ";", "law", "each", "not", "me", "<", "other",
        "or", "[", "square", "rooms", "and", "prime", "many", "]", ";", "law", "beside", "house", "+", "street", ">", "5",
        "-", "2", "*", "(", "1", "/", "3", "%", "4", ")", ";", "law", "within", "min", "(", "me", ",", "1", ")", "=", "max",
        "(", "2", ",", "gcd", "(", "me", ",", "other", ")", ")", ";", "wed", "all", "and", "all", ";", "owes", "a",
        "abcdef", "9999", ";", "fire", "100", ";"};
    private static final int PARTS_STATEMENTS = 14;

    public static void main(String[] args) {
        statements80AtMost();
        streets4();
        housesOfAStreet();
        rooms1To6();
        houses12();
        lanesOfTwoUnlikeHouses();
        lanesOfNoNeighboursSoFar();
        lanes10();
        numbersNot0();
        numbersUnlikeOnes();
        numbersWhereThereIsRoom();
        people16();
        lawsEachBesideWithin();
        laws8();
        wedOne();
        owesTwoUnlikeHouses();
        owes1To9999();
        debts16();
        fire0To100();
        fireTheLastOneCounts();
        allLimitsAtOnce();
        valuesOfTests();
        valuesPastTheBridge();
        factsTrueAndFalse();
        testsAsLongAsTheTape();
        sumsAsLongAsTheTape();
        sumsAsDeepAsCanBe();
        allFromTheLeftOn();
        quotients();
        remainders();
        by0BothGive0();
        greatestCommonFactors();
        resultsAbove();
        squares();
        primes();
        names1To6Letters();
        namesUnlikeOnes();
        namesToldAhead();
        numbers1To9Digits();
        blanks10And32();
        blanksSideBySide();
        ownWordsAreNoNames();
        theFirstAlongTheText();
        wordsAndNumbersWhole();
        atTheTextsLength();
        seventhLetterTenthDigit();
        ownWordWhereANameMustBe();
        fault2();
        fault3();
        fault4();
        fault5AtTheEighth();
        fault5NotUntilItsFactEnds();
        fault6OneTooMany();
        fault6The81st();
        p01NewObject();
        p01TheSeedIs1();
        p02TwentyBytesBehind();
        p02RefusedAbove1600();
        p03FirstBytesAlone();
        p03RefusedEnd();
        p04Statements();
        p04TheTown();
        p04Refused();
        p04WithoutAFault();
        p05Fault();
        p05NoneForAnotherWhat();
        Edge.finish(1, 5);
    }

    // ---- a town is a text

    private static void statements80AtMost() {
        Edge.says(TERMS, "A TOWN is a text: { STATEMENT ; } (80 at most)");
        Edge.good("", 0);
        Edge.good(" ", 0);
        Edge.good("fire 7;", 1);
        Edge.good(Edge.times("fire #;", 79), 79);
        Edge.good(Edge.times("fire #;", 80), 80);
        Edge.good(Edge.times("fire #;", 80) + " \n ", 80);
        Edge.faultAt(6, Edge.times("fire #;", 80) + "^fire 1;");
        Edge.faultAt(1, "fire 7^");
        Edge.faultAt(1, "fire 7;^;");
        Edge.faultAt(1, "^;fire 7;");
    }

    private static void streets4() {
        Edge.says(TERMS, "street NAME (4 STREETS)");
        Edge.good(Edge.times("street $;", 4), 4);
        Edge.faultAt(6, Edge.times("street $;", 4) + "^street e;");
        Edge.due("has(0)", Edge.town(Edge.times("street $;", 4)).has(0), 4);
    }

    private static void housesOfAStreet() {
        Edge.says(TERMS, "house NAME of NAME rooms N (a STREET; 1 .. 6; 12 HOUSES)");
        Edge.good("street s;house a of s rooms 1;", 2);
        Edge.faultAt(3, "street s;house a of s rooms 1;house b of ^a rooms 1;");
        Edge.faultAt(3, "street s;house a of ^a rooms 1;");
        Edge.faultAt(3, "house a of ^s rooms 1;");
        Edge.faultAt(1, "street s;house a of ^rooms 1;");
    }

    private static void rooms1To6() {
        Edge.says(TERMS, "(a STREET; 1 .. 6; 12 HOUSES)");
        for (int rooms = 1; rooms <= 6; rooms++) {
            Edge.due("rooms", Edge.town("street s;house a of s rooms " + rooms + ";").house(0, 1), rooms);
        }
        Edge.faultAt(4, "street s;house a of s rooms ^0;");
        Edge.faultAt(4, "street s;house a of s rooms ^7;");
        Edge.faultAt(4, "street s;house a of s rooms ^000000000;");
        Edge.faultAt(4, "street s;house a of s rooms ^999999999;");
        Edge.faultAt(1, "street s;house a of s rooms ^-1;");
    }

    private static void houses12() {
        Edge.says(TERMS, "1 .. 6; 12 HOUSES)");
        Edge.good(TWELVE, 13);
        Edge.faultAt(6, TWELVE + "^house m of oak rooms 1;");
        String two = "street oak;street elm;" + Edge.times("house $ of oak rooms 1;", 6) + Edge.times("house $$ of elm rooms 1;", 6);
        Edge.good(two, 14);
        Edge.faultAt(6, two + "^house m of oak rooms 1;");
        NumberDoor x = Edge.town(TWELVE);
        Edge.due("has(1)", x.has(1), 12);
        Edge.due("house(11, 3)", x.house(11, 3), 11);
        Edge.due("house(11, 4)", x.house(11, 4), 1 << 10);
        Edge.due("house(10, 4)", x.house(10, 4), 1 << 9 | 1 << 11);
    }

    private static void lanesOfTwoUnlikeHouses() {
        Edge.says(TERMS, "lane NAME NAME (two unlike HOUSES that are no NEIGHBOURS so far; 10 LANES)");
        Edge.good(OAK + "lane a c;", 5);
        Edge.good(OAK + "lane c a;", 5);
        Edge.faultAt(3, OAK + "lane a ^a;");
        Edge.faultAt(3, OAK + "lane c ^c;");
        Edge.faultAt(3, OAK + "lane ^oak a;");
        Edge.faultAt(3, OAK + "lane a ^oak;");
        Edge.faultAt(3, "lane ^a b;" + OAK);
    }

    private static void lanesOfNoNeighboursSoFar() {
        Edge.says(TERMS, "that are no NEIGHBOURS so far");
        Edge.faultAt(3, OAK + "lane a ^b;");
        Edge.faultAt(3, OAK + "lane b ^a;");
        Edge.faultAt(3, OAK + "lane c ^b;");
        Edge.faultAt(3, OAK + "lane a c;lane a ^c;");
        Edge.faultAt(3, OAK + "lane a c;lane c ^a;");
        Edge.good(OAK + "street elm;house d of elm rooms 1;lane c d;lane a d;lane b d;lane c a;", 10);
        Edge.good("street s;street t;house a of s rooms 1;house b of t rooms 1;lane a b;house c of s rooms 1;lane c b;", 7);
        Edge.faultAt(3, "street s;street t;house a of s rooms 1;house b of t rooms 1;house c of s rooms 1;lane a ^c;");
    }

    private static void lanes10() {
        Edge.says(TERMS, "no NEIGHBOURS so far; 10 LANES)");
        String ten = TWELVE + "lane a c;lane a d;lane a e;lane a f;lane a g;lane a h;lane a i;lane a j;lane a k;lane a l;";
        Edge.good(ten, 23);
        Edge.faultAt(6, ten + "^lane b d;");
        NumberDoor x = Edge.town(ten);
        Edge.due("has(2)", x.has(2), 10);
        Edge.due("house(0, 4)", x.house(0, 4), 4094);
        Edge.due("house(11, 4)", x.house(11, 4), 1 | 1 << 10);
    }

    private static void numbersNot0() {
        Edge.says(TERMS, "V: N, or - N.");
        Edge.faultAt(1, "number ^;");
        Edge.faultAt(1, "number -^;");
        Edge.faultAt(1, "number 1 ^-;");
        Edge.says(TERMS, "number V or number V in NAME (not 0, unlike ones");
        Edge.faultAt(4, "number ^0;");
        Edge.faultAt(4, "number ^-0;");
        Edge.faultAt(4, "number ^- \n000000000;");
        Edge.faultAt(4, OAK + "number ^0 in a;");
        Edge.due("1", Edge.town("number 1;").number(0), 1);
        Edge.due("-1", Edge.town("number -1;").number(0), -1);
        Edge.due("- 1", Edge.town("number - \n 1;").number(0), -1);
        Edge.due("the greatest", Edge.town("number 999999999;").number(0), 999999999);
        Edge.due("the least", Edge.town("number -999999999;").number(0), -999999999);
        Edge.faultAt(1, "number - ^- 1;");
        Edge.faultAt(1, "number ^+1;");
    }

    private static void numbersUnlikeOnes() {
        Edge.says(TERMS, "(not 0, unlike ones; a HOUSE where there is room; 16 PEOPLE)");
        Edge.good("number 5;number -5;", 2);
        Edge.faultAt(4, "number 5;number ^5;");
        Edge.faultAt(4, "number 5;number ^000000005;");
        Edge.faultAt(4, "number -5;number ^- 5;");
        Edge.faultAt(4, OAK + "number 5 in a;number ^5 in b;");
        Edge.faultAt(4, OAK + "number 5 in a;number ^5;");
    }

    private static void numbersWhereThereIsRoom() {
        Edge.says(TERMS, "a HOUSE where there is room");
        Edge.good(OAK + "number 1 in c;", 5);
        Edge.faultAt(3, OAK + "number 1 in c;number 2 in ^c;");
        Edge.good(OAK + "number 1 in a;number 2 in a;number 3 in c;number 4 in b;number 5 in b;number 6 in b;", 10);
        Edge.faultAt(3, OAK + "number 1 in a;number 2 in a;number 3 in ^a;");
        Edge.faultAt(3, OAK + "number 4 in b;number 5 in b;number 6 in b;number 7 in ^b;");
        Edge.good(TWELVE + Edge.times("number # in l;", 6), 19);
        Edge.faultAt(3, TWELVE + Edge.times("number # in l;", 6) + "number 7 in ^l;");
        Edge.faultAt(3, OAK + "number 1 in ^oak;");
        Edge.faultAt(3, OAK + "number 1 in ^d;");
    }

    private static void people16() {
        Edge.says(TERMS, "a HOUSE where there is room; 16 PEOPLE)");
        Edge.good(Edge.times("number #;", 16), 16);
        Edge.faultAt(6, Edge.times("number #;", 16) + "^number 17;");
        String housed = TWELVE + Edge.times("number # in a;", 6) + Edge.times("number -# in b;", 6);
        Edge.good(housed + Edge.times("number 5#;", 4), 29);
        Edge.faultAt(6, housed + Edge.times("number 5#;", 4) + "^number 0");
        NumberDoor x = Edge.town(Edge.times("number #;", 16));
        Edge.due("has(3)", x.has(3), 16);
        Edge.due("number(15)", x.number(15), 16);
    }

    private static void lawsEachBesideWithin() {
        Edge.says(TERMS, "law KIND TEST (each, beside, within; 8 LAWS)");
        Edge.good("law each all;law beside all;law within all;", 3);
        Edge.faultAt(1, "law ^wed all;");
        Edge.faultAt(1, "law ^all;");
        Edge.faultAt(1, "law ^every all;");
        Edge.faultAt(1, "law ^fire all;");
        Edge.faultAt(1, "law each ^;");
        Edge.faultAt(1, "law each ^each all;");
        for (int number = 0; number < 30; number++) {
            Edge.faultAt(1, "law ^" + number + " all;");
        }
    }

    private static void laws8() {
        Edge.says(TERMS, "(each, beside, within; 8 LAWS)");
        Edge.good(Edge.times("law each all;", 8), 8);
        Edge.faultAt(6, Edge.times("law each all;", 8) + "^law each all;");
        String mixed = Edge.times("law each all;", 3) + Edge.times("law beside all;", 3) + Edge.times("law within all;", 2);
        Edge.good(mixed, 8);
        Edge.faultAt(6, mixed + "^law within all;");
        Edge.good(mixed + "wed all;", 9);
        Edge.due("has(5)", Edge.town(mixed + "wed all;").has(5), 8);
    }

    private static void wedOne() {
        Edge.says(TERMS, "wed TEST (one)");
        Edge.good("wed all;", 1);
        Edge.faultAt(6, "wed all;^wed all;");
        Edge.faultAt(6, "wed not all;fire 1;^wed all;");
        Edge.faultAt(1, "wed ^;");
    }

    private static void owesTwoUnlikeHouses() {
        Edge.says(TERMS, "owes NAME NAME N (two unlike HOUSES, the first one owes the second one");
        Edge.faultAt(3, OAK + "owes a ^a 5;");
        Edge.faultAt(3, OAK + "owes ^oak a 5;");
        Edge.faultAt(3, OAK + "owes a ^oak 5;");
        Edge.faultAt(3, "owes ^a b 5;" + OAK);
        NumberDoor x = Edge.town(OAK + "owes a c 5;owes a b 2;owes a b 2;owes b a 1;");
        Edge.due("of the first one", x.net(0), -8);
        Edge.due("of b", x.net(1), 3);
        Edge.due("of the second one", x.net(2), 5);
        Edge.due("has(6)", x.has(6), 4);
    }

    private static void owes1To9999() {
        Edge.says(TERMS, "1 .. 9999; 16 DEBTS)");
        Edge.due("the least", Edge.town(OAK + "owes a b 1;").net(1), 1);
        Edge.due("the greatest", Edge.town(OAK + "owes a b 9999;").net(1), 9999);
        Edge.due("with noughts", Edge.town(OAK + "owes a b 000009999;").net(0), -9999);
        Edge.faultAt(4, OAK + "owes a b ^0;");
        Edge.faultAt(4, OAK + "owes a b ^10000;");
        Edge.faultAt(4, OAK + "owes a b ^999999999;");
        Edge.faultAt(1, OAK + "owes a b ^-1;");
    }

    private static void debts16() {
        Edge.says(TERMS, "9999; 16 DEBTS)");
        Edge.good(OAK + Edge.times("owes a b 9999;", 16), 20);
        Edge.faultAt(6, OAK + Edge.times("owes a b 9999;", 16) + "^owes c b 1;");
        NumberDoor x = Edge.town(OAK + Edge.times("owes a b 9999;", 16));
        Edge.due("has(6)", x.has(6), 16);
        Edge.due("net(0)", x.net(0), -16 * 9999);
        Edge.due("net(1)", x.net(1), 16 * 9999);
    }

    private static void fire0To100() {
        Edge.says(TERMS, "fire N (0 .. 100; the last one counts; 0 without)");
        Edge.good("fire 0;", 1);
        Edge.good("fire 100;", 1);
        Edge.good("fire 000000100;", 1);
        Edge.faultAt(4, "fire ^101;");
        Edge.faultAt(4, "fire ^999999999;");
        Edge.faultAt(1, "fire ^-1;");
        Edge.faultAt(1, "fire ^;");
    }

    /** How many are past the bridge after a year in a town with one house and one who lives in it, from a seed on. */
    private static int burned(String fires, int seed) {
        NumberDoor x = Edge.town("street s;house a of s rooms 1;" + fires + "number 5000 in a;");
        x.seed(seed);
        x.years(1);
        return x.person(0, 0) == NONE ? 1 : 0;
    }

    private static void fireTheLastOneCounts() {
        Edge.says(TERMS, "the last one counts; 0 without)");
        for (int seed = 0; seed < 50; seed++) {
            Edge.due("fire 0 alone, seed " + seed, burned("fire 0;", seed), 0);
            Edge.due("without, seed " + seed, burned("", seed), 0);
            Edge.due("fire 100, seed " + seed, burned("fire 100;", seed), 1);
            Edge.due("100 then 0, seed " + seed, burned("fire 100;fire 0;", seed), 0);
            Edge.due("0 then 100, seed " + seed, burned("fire 0;fire 100;", seed), 1);
        }
        NumberDoor x = Edge.town("street s;house a of s rooms 1;number 5000 in a;fire 100;");
        Edge.put(x, "street s;house a of s rooms 1;number 5000 in a;");
        Edge.due("a town without behind one with", x.town(), 3);
        x.years(1);
        Edge.due("nobody is past the bridge", x.person(0, 0), 0);
    }

    private static void allLimitsAtOnce() {
        Edge.says(TERMS, "(0 .. 100; the last one counts; 0 without).");
        String full = Edge.times("street s$;", 4) + Edge.times("house $ of sa rooms 6;", 12)
            + "lane a c;lane a d;lane a e;lane a f;lane a g;lane a h;lane a i;lane a j;lane a k;lane a l;"
            + Edge.times("number # in b;", 6) + Edge.times("number -#;", 10) + Edge.times("law each all;", 8) + "wed all;"
            + Edge.times("owes a b #;", 16) + Edge.times("fire #;", 13);
        Edge.good(full, 80);
        int[] want = {4, 12, 10, 16, 10, 8, 16, 0};
        NumberDoor x = Edge.town(full);
        for (int what = 0; what < want.length; what++) {
            Edge.due("has(" + what + ")", x.has(what), want[what]);
        }
        Edge.faultAt(6, full + "^street a;");
        Edge.faultAt(6, full + "^fire 1;");
    }

    // ---- tests

    private static void test(String test, int me, int other, boolean want) {
        NumberDoor x = Edge.town("street s;street t;house g of s rooms 1;house h of t rooms 4;number " + me
            + " in h;number " + other + ";law each " + test + ";");
        Edge.due(test + " of " + me + " and " + other, x.holds(0, 0, 1), want ? 1 : 0);
    }

    private static void is(String sum, int value) {
        String told = (value < 0 ? "0-" : "") + Math.abs(value);
        if (Math.abs(value) == 1000000000) {
            told = value < 0 ? "0-999999999-1" : "999999999+1";
        }
        test(sum + "=" + told, 9, -4, true);
        test(sum + "<" + told + " or " + sum + ">" + told, 9, -4, false);
    }

    private static void valuesOfTests() {
        Edge.says(TERMS, "(Of one who is asked: the number; the other one's; of the HOUSE where the one lives how many rooms "
            + "it has, how many live there, which it is; which its STREET is");
        is("me", 9);
        is("other", -4);
        is("rooms", 4);
        is("many", 1);
        is("house", 1);
        is("street", 1);
        NumberDoor x = Edge.town("street s;house g of s rooms 6;house h of s rooms 1;number 1 in g;number 2 in g;number 3 in h;"
            + "law each many=2 and rooms=6 and house=0 and street=0;law each many=1 and rooms=1 and house=1 and street=0;");
        Edge.due("of me, not of the other", x.holds(0, 0, 2), 1);
        Edge.due("of me, not of the other", x.holds(1, 2, 0), 1);
        Edge.due("a house fills up", x.move(2, 0), true);
        Edge.due("many is 3 then", x.holds(0, 0, 2), 0);
        NumberDoor last = Edge.town(Edge.times("street s$;", 4) + Edge.times("house $ of sd rooms 6;", 12)
            + Edge.times("number # in l;", 6) + "law each house=11 and street=3 and many=6 and rooms=6;");
        Edge.due("the last house of the last street, full", last.holds(0, 5, 0), 1);
    }

    private static void valuesPastTheBridge() {
        Edge.says(TERMS, "of one past the bridge 0, 0, -1, -1.)");
        NumberDoor x = Edge.town("street s;house g of s rooms 1;number 9;number -4;number 3 in g;law each rooms=0;law each many=0;"
            + "law each house=0-1;law each street=0-1;law each me=9;law each other=0-4;");
        for (int law = 0; law < 6; law++) {
            Edge.due("law " + law, x.holds(law, 0, 1), 1);
        }
        NumberDoor none = Edge.town("number 9;law each rooms=0 and many=0 and house=0-1 and street=0-1;");
        Edge.due("without HOUSES", none.holds(0, 0, 0), 1);
    }

    private static void factsTrueAndFalse() {
        Edge.says(TERMS, "FACT: not FACT; [ TEST ] ; all; square SUM; prime SUM; SUM SIGN SUM, SIGN < or > or = .");
        String[] holding = {"all", "square 4", "prime 7", "1<2", "2>1", "2=2", "[all]", "not not all", "all and all", "all or not all"};
        String[] failing = {"not all", "square 5", "prime 8", "2<2", "3<2", "2>2", "1>2", "1=2", "2=1", "[not all]", "all and not all",
            "not all or not all"};
        for (String fact : holding) {
            test(fact, 9, -4, true);
            test("not [" + fact + "]", 9, -4, false);
            test("not " + fact, 9, -4, false);
            test("[" + fact + "] and 1=1", 9, -4, true);
            test("[" + fact + "] and 1=2", 9, -4, false);
            test("[" + fact + "] or 1=2", 9, -4, true);
        }
        for (String fact : failing) {
            test(fact, 9, -4, false);
            test("not [" + fact + "]", 9, -4, true);
            test("[" + fact + "] and 1=1", 9, -4, false);
            test("[" + fact + "] or 1=1", 9, -4, true);
            test("[" + fact + "] or 1=2", 9, -4, false);
        }
    }

    /** Whether a law of each, as long as it may be, holds for 9 past the bridge. */
    private static int longTest(String test) {
        NumberDoor x = Edge.town("number 9;law each " + test + ";");
        return x.holds(0, 0, 0);
    }

    /** A text as long as the tape, with a piece as often as there is room for it. */
    private static String filled(String ahead, String piece, String behind) {
        int room = 1600 - "number 9;law each ;".length() - ahead.length() - behind.length();
        return ahead + piece.repeat(room / piece.length()) + behind + " ".repeat(room % piece.length());
    }

    private static void testsAsLongAsTheTape() {
        Edge.says(TERMS, "TEST: BOTH { or BOTH }. BOTH: FACT { and FACT }.");
        Edge.due("one FACT", longTest("all"), 1);
        Edge.due("and .. and, all hold", longTest(filled("all", " and all", " and 1=1")), 1);
        Edge.due("and .. and, the last one does not", longTest(filled("all", " and all", " and 1=2")), 0);
        Edge.due("and .. and, the first one does not", longTest(filled("1=2", " and all", "")), 0);
        Edge.due("or .. or, none holds", longTest(filled("1=2", " or 1=2", "")), 0);
        Edge.due("or .. or, the last one holds", longTest(filled("1=2", " or 1=2", " or 1=1")), 1);
        Edge.due("or .. or, the first one holds", longTest(filled("1=1", " or 1=2", "")), 1);
        Edge.faultAt(1, "law each all or ^;");
        Edge.faultAt(1, "law each all and ^or all;");
        Edge.faultAt(1, "law each ^and all;");
    }

    private static void sumsAsLongAsTheTape() {
        Edge.says(TERMS, "SUM: PRODUCT { + or - PRODUCT }. PRODUCT: PART { * or / or % PART }.");
        String sum = filled("1", "+1", "=999");
        int terms = sum.length() - sum.replace("1", "").length();
        Edge.due("1+1+ ..", longTest(sum.replace("999", Integer.toString(terms))), 1);
        Edge.due("0-1-1- ..", longTest(filled("0", "-1", "<0-700")), 1);
        Edge.due("3*1*1* ..", longTest(filled("3", "*1", "=3")), 1);
        Edge.due("999999999/2/2 ..", longTest(filled("999999999", "/2", "=0")), 1);
        Edge.due("9%7%7 ..", longTest(filled("9", "%7", "=2")), 1);
        Edge.due("1*1+1*1- ..", longTest(filled("5", "+1*2-4/2", "=5")), 1);
        Edge.faultAt(1, "law each 1+^=2;");
        Edge.faultAt(1, "law each 1*^/2=2;");
        Edge.faultAt(1, "law each ^-1=2;");
        Edge.faultAt(1, "law each (^)=2;");
    }

    private static void sumsAsDeepAsCanBe() {
        Edge.says(TERMS, "( SUM ) ; min ( SUM , SUM ) ; max ( SUM , SUM ) ; gcd ( SUM , SUM ) .");
        StringBuilder deep = new StringBuilder("me");
        int value = 9;
        for (int level = 0; level < 7; level++) {
            deep.insert(0, level % 2 == 0 ? "max(0-5,1+2*" : "min(900,1+2*").append(")");
            deep.insert(0, level == 6 ? "3-1*" : "");
            value = level % 2 == 0 ? Math.max(-5, 1 + 2 * value) : Math.min(900, 1 + 2 * value);
        }
        Edge.due("seven deep", longTest("1=2 or 2=2 and " + deep + "=0-" + (value - 3)), 1);
        Edge.due("seven deep", longTest("1=2 or 2=2 and " + deep + "=0-" + (value - 2)), 0);
        Edge.due("seven of all sorts", longTest("not [not [gcd((me)+9,max(4,(6)))=6]]"), 1);
        Edge.faultAt(1, "law each min(1^)=1;");
        Edge.faultAt(1, "law each max(1,2^,3)=1;");
        Edge.faultAt(1, "law each gcd^=1;");
        Edge.faultAt(1, "law each gcd ^me,1)=1;");
        Edge.faultAt(1, "law each min(^,1)=1;");
        Edge.faultAt(1, "law each min(1,^)=1;");
        Edge.faultAt(1, "law each (1^,2)=1;");
    }

    private static void allFromTheLeftOn() {
        Edge.says(TERMS, "All from the left on");
        is("10-3-2", 5);
        is("10-3+2", 9);
        is("24/4/2", 3);
        is("24/4*2", 12);
        is("100%7*2", 4);
        is("2*7%4", 2);
        is("7%4/2", 1);
        is("2+3*4", 14);
        is("(2+3)*4", 20);
        is("20-2*3-4/2", 12);
        test("all or all and not all", 9, -4, true);
        test("not all and all or all", 9, -4, true);
        test("[all or all] and not all", 9, -4, false);
        test("not all or all", 9, -4, true);
        test("not [all or all]", 9, -4, false);
        test("not not all", 9, -4, true);
        test("not 1=2 and 1=1", 9, -4, true);
        test("1<1 or 1>1", 9, -4, false);
        test("1=1", 9, -4, true);
        test("1<2 and 2>1", 9, -4, true);
        test("2<1 or 1>2", 9, -4, false);
    }

    private static void quotients() {
        Edge.says(TERMS, "/ gives the greatest whole number not above");
        is("7/2", 3);
        is("(0-7)/2", -4);
        is("7/(0-2)", -4);
        is("(0-7)/(0-2)", 3);
        is("(0-8)/2", -4);
        is("8/(0-2)", -4);
        is("0/5", 0);
        is("1/999999999", 0);
        is("(0-1)/999999999", -1);
        is("(999999999+1)/1", 1000000000);
        is("(999999999+1)/(0-1)", -1000000000);
        is("(0-999999999-1)/(0-1)", 1000000000);
        is("me/other", -3);
    }

    private static void remainders() {
        Edge.says(TERMS, "% what is left (a less b times that)");
        is("7%2", 1);
        is("(0-7)%2", 1);
        is("7%(0-2)", -1);
        is("(0-7)%(0-2)", -1);
        is("(0-8)%2", 0);
        is("8%(0-2)", 0);
        is("1%999999999", 1);
        is("(0-1)%999999999", 999999998);
        is("1%(0-999999999)", -999999998);
        is("(0-999999999-1)%(999999999+1)", 0);
        is("me%other", -3);
    }

    private static void by0BothGive0() {
        Edge.says(TERMS, "by 0 both give 0");
        is("7/0", 0);
        is("7%0", 0);
        is("(0-7)/0", 0);
        is("(0-7)%0", 0);
        is("0/0", 0);
        is("0%0", 0);
        is("me/(me-9)", 0);
        is("me%(me-9)", 0);
        is("5+7/0", 5);
    }

    private static void greatestCommonFactors() {
        Edge.says(TERMS, "gcd is the greatest number by which both can be divided, signs aside (of 0 and 0 it is 0)");
        is("gcd(0,0)", 0);
        is("gcd(0,5)", 5);
        is("gcd(0-5,0)", 5);
        is("gcd(12,18)", 6);
        is("gcd(0-12,18)", 6);
        is("gcd(12,0-18)", 6);
        is("gcd(0-12,0-18)", 6);
        is("gcd(1,999999999)", 1);
        is("gcd(999999999+1,0-999999999-1)", 1000000000);
        is("gcd(me,other)", 1);
        is("min(0-1,1)", -1);
        is("max(0-1,1)", 1);
        is("min(3,3)", 3);
        is("max(3,3)", 3);
    }

    private static void resultsAbove() {
        Edge.says(TERMS, "each result above 10 to the 9 is that, below -10 to the 9 likewise");
        test("999999999+1>999999999", 9, -4, true);
        test("999999999+1=999999999+2", 9, -4, true);
        test("999999999+999999999=999999999+1", 9, -4, true);
        test("500000000*2=999999999+1", 9, -4, true);
        test("500000000*2-1=999999999", 9, -4, true);
        test("0-999999999-1<0-999999999", 9, -4, true);
        test("0-999999999-1=0-999999999-2", 9, -4, true);
        is("999999999+999999999-999999999", 1);
        is("0-999999999-999999999+999999999", -1);
        is("65536*65536", 1000000000);
        is("999999999*999999999", 1000000000);
        is("(0-999999999)*999999999", -1000000000);
        is("(0-999999999)*(0-999999999)", 1000000000);
        is("46341*46341-999999999", 1);
        is("999999999*999999999/1000", 1000000);
        is("999999999*9*0", 0);
        is("31623*31623", 1000000000);
        is("31622*31622", 999950884);
    }

    private static void squares() {
        Edge.says(TERMS, "square: it is a square of a whole number");
        for (int n : new int[] {0, 1, 4, 9, 16, 25, 999887641, 999950884}) {
            test("square " + n, 9, -4, true);
        }
        for (int n : new int[] {2, 3, 5, 8, 15, 17, 999887640, 999887642, 999950883, 999950885, 999999999}) {
            test("square " + n, 9, -4, false);
        }
        test("square 0-1", 9, -4, false);
        test("square 0-4", 9, -4, false);
        test("square 0-999999999-1", 9, -4, false);
        test("square 999999999+1", 9, -4, false);
        test("square me", 9, -4, true);
        test("square other", 9, -4, false);
        test("square me-5", 9, -4, true);
    }

    private static void primes() {
        Edge.says(TERMS, "prime: it is 2 or more, and only by 1 and itself can it be divided.");
        for (int n : new int[] {2, 3, 5, 7, 11, 13, 17, 19, 23, 29, 31, 37, 41, 43, 61, 1669, 1693, 999999929, 999999937}) {
            test("prime " + n, 9, -4, true);
        }
        for (int n : new int[] {0, 1, 4, 6, 9, 15, 25, 49, 121, 169, 341, 561, 961, 1369, 1681, 1763, 1849, 2047, 3277,
            4033, 4681, 8321, 29341, 314821, 1373653, 25326001, 999950883, 999950884, 999999938, 999999999}) {
            test("prime " + n, 9, -4, false);
        }
        // These look prime by many a short test.
        for (int n : new int[] {79381, 410041, 721801, 916327, 1152271, 2205967, 2269093, 2284453, 294409, 56052361, 118901521,
            842824981, 878940833, 932098133, 932148253}) {
            test("prime " + n, 9, -4, false);
        }
        test("prime 0-2", 9, -4, false);
        test("prime 0-7", 9, -4, false);
        test("prime 999999999+1", 9, -4, false);
        test("prime me+other", 9, -4, true);
    }

    // ---- names, numbers, blanks

    private static void names1To6Letters() {
        Edge.says(TERMS, "NAMES: 1 to 6 letters");
        Edge.good("street a;", 1);
        Edge.good("street z;", 1);
        Edge.good("street azazaz;", 1);
        Edge.faultAt(1, "street azazaz^a;");
        Edge.faultAt(1, "street ^;");
        Edge.faultAt(1, "street ^`;");
        Edge.faultAt(1, "street ^{;");
        Edge.faultAt(1, "street ^A;");
        Edge.faultAt(1, "street ^Z;");
        Edge.faultAt(1, "street a^B;");
        Edge.faultAt(1, "street a^-b;");
        Edge.faultAt(1, "street a^_b;");
        Edge.faultAt(1, "street ^\u00e4;");
        Edge.faultAt(1, "street a^0;");
    }

    private static void namesUnlikeOnes() {
        Edge.says(TERMS, "NAMES: 1 to 6 letters, unlike ones (of all sorts)");
        Edge.faultAt(2, "street s;street ^s;");
        Edge.faultAt(2, "street s;house ^s of s rooms 1;");
        Edge.faultAt(2, "street s;house a of s rooms 1;street ^a;");
        Edge.faultAt(2, "street s;house a of s rooms 1;house ^a of s rooms 1;");
        Edge.faultAt(2, "street s;street t;house a of s rooms 1;house ^a of t rooms 1;");
        Edge.faultAt(2, "street abcdef;street ^abcdef;");
        Edge.good("street a;street aa;street aaa;street aaaa;", 4);
        Edge.good("street abcdef;street abcdeg;street bbcdef;house abcde of abcdef rooms 1;house bcdef of abcdeg rooms 1;", 5);
    }

    private static void namesToldAhead() {
        Edge.says(TERMS, "told ahead of where they are asked");
        Edge.faultAt(3, "house a of ^s rooms 1;street s;");
        Edge.faultAt(3, "street s;house a of s rooms 1;lane a ^b;house b of s rooms 1;");
        Edge.faultAt(3, "street s;number 1 in ^a;house a of s rooms 1;");
        Edge.faultAt(3, "street s;house a of s rooms 1;owes ^b a 1;house b of s rooms 1;");
        Edge.good("street s;house a of s rooms 1;street t;house b of t rooms 1;lane a b;number 1 in b;owes b a 1;", 7);
    }

    private static void numbers1To9Digits() {
        Edge.says(TERMS, "NUMBERS: 1 to 9 digits.");
        Edge.good("fire 7;", 1);
        Edge.good("fire 000000007;", 1);
        Edge.good("number 999999999;", 1);
        Edge.good("law each 999999999=000000000;", 1);
        Edge.faultAt(1, "fire 000000000^7;");
        Edge.faultAt(1, "number 999999999^9;");
        Edge.faultAt(1, "number 000000000^0;");
        Edge.faultAt(1, "number -100000000^0;");
        Edge.faultAt(1, "law each me=100000000^0;");
        Edge.faultAt(1, "fire 100000000^0000000000000000000;");
        Edge.faultAt(1, "fire ^/;");
        Edge.faultAt(1, "fire ^:;");
        Edge.due("9 alone", Edge.town("number 9;").number(0), 9);
        Edge.due("all digits", Edge.town("number 102345678;").number(0), 102345678);
    }

    private static void blanks10And32() {
        Edge.says(TERMS, "Blanks (10, 32) are where one likes");
        for (int c = 0; c < 256; c++) {
            boolean blank = c == 10 || c == 32;
            String sign = Character.toString((char) c);
            if (blank) {
                Edge.good("street" + sign + "s;", 1);
                Edge.good(sign + "street s" + sign + ";" + sign, 1);
                continue;
            }
            Edge.faulty("street" + sign + "s;", 1, 6);
            if (c != ';') {
                Edge.faulty("street s" + sign, 1, c >= 'a' && c <= 'z' ? 9 : 8);
            }
            Edge.faulty("street s;" + sign, 1, 9);
        }
        StringBuilder wide = new StringBuilder(" \n");
        for (String part : PARTS) {
            wide.append(part).append(" \n ");
        }
        Edge.good(wide.toString(), PARTS_STATEMENTS);
    }

    private static boolean isRun(String part) {
        char c = part.charAt(0);
        return c >= 'a' && c <= 'z' || c >= '0' && c <= '9';
    }

    /** The parts as one text: blanks only where two words or numbers meet, and none ahead of the part number glued. */
    private static String joined(int upTo, int glued) {
        StringBuilder all = new StringBuilder();
        for (int i = 0; i < upTo; i++) {
            boolean meet = i > 0 && isRun(PARTS[i - 1]) && isRun(PARTS[i]);
            all.append(meet && i != glued ? " " : "").append(PARTS[i]);
        }
        return all.toString();
    }

    private static void blanksSideBySide() {
        Edge.says(TERMS, "(words and numbers side by side need one)");
        Edge.good(joined(PARTS.length, NONE), PARTS_STATEMENTS);
        for (int i = 1; i < PARTS.length; i++) {
            boolean word = Character.isLetter(PARTS[i - 1].charAt(0));
            if (isRun(PARTS[i - 1]) && isRun(PARTS[i]) && word != Character.isLetter(PARTS[i].charAt(0))) {
                Edge.faulty(joined(PARTS.length, i), 1, joined(i, NONE).length());
            }
        }
        Edge.faultAt(1, "number 5^in a;");
        Edge.faultAt(1, OAK + "house d of oak rooms^2;");
        Edge.faultAt(1, OAK + "owes a b^5;");
        Edge.faultAt(1, "law each me=5^or all;");
        Edge.faultAt(1, "law each me=1 and^1=1;");
        Edge.faultAt(1, "fire^7;");
        Edge.faultAt(1, "street^s;");
        Edge.faultAt(1, "street inn^1;");
        Edge.good("law each(me)=1 and all;", 1);
        Edge.good("law each[me=1]and[not(1)=me]or all;", 1);
    }

    private static void ownWordsAreNoNames() {
        Edge.says(TERMS, "OWN WORDS, which no NAME is: street, house, of, rooms, lane, number, in, law, each, beside, within, "
            + "wed, owes, fire, me, other, many, square, prime, or, and, not, all, min, max, gcd.");
        for (String own : OWN_WORDS) {
            Edge.faultAt(1, "street ^" + own + ";");
            Edge.faultAt(1, "street s;house ^" + own + " of s rooms 1;");
            Edge.good("street " + own.substring(0, own.length() - 1) + "q;", 1);
            Edge.good("street q" + own.substring(1) + ";", 1);
            if (own.length() < 6) {
                Edge.good("street " + own + "q;", 1);
                Edge.good("street q" + own + ";", 1);
            }
        }
        for (String word : new String[] {"room", "past", "people", "town", "if", "the", "mod", "abs", "none", "true"}) {
            Edge.good("street " + word + ";", 1);
        }
    }

    // ---- faults

    private static void theFirstAlongTheText() {
        Edge.says(TERMS, "FAULTS, the first along the text");
        Edge.faultAt(2, "street s;street ^s;number 0;wed all;wed all;!");
        Edge.faultAt(4, "number ^0;street s;street s;");
        Edge.faultAt(3, "number 5 in ^a;number 0;");
        Edge.faultAt(4, OAK + "number ^0 in zz;");
        Edge.faultAt(3, OAK + "owes a ^a 0;");
        Edge.faultAt(4, OAK + "owes a b ^0 5;");
        Edge.faultAt(2, OAK + "house ^a of zz rooms 9;");
        Edge.faultAt(3, OAK + "house z of ^zz rooms 9;");
        Edge.faultAt(6, Edge.times("street $;", 4) + "^street street;");
        Edge.faultAt(6, Edge.times("number #;", 16) + "^number 0;");
        Edge.faultAt(1, "law each me ^; [[[[[[[[");
        Edge.faultAt(5, "law each [[[[[[[^[ ;");
        Edge.faultAt(1, "fire 7 ^fire 101;");
        Edge.faultAt(4, "fire ^101 fire");
    }

    private static void wordsAndNumbersWhole() {
        Edge.says(TERMS, "1 the first byte with which no TOWN goes on (words and numbers whole, at their first byte");
        Edge.faultAt(1, "^stree s;");
        Edge.faultAt(1, "^streex s;");
        Edge.faultAt(1, "street s;house a ^off s rooms 1;");
        Edge.faultAt(1, "street s;house a of s ^room 1;");
        Edge.faultAt(1, "law ^eac all;");
        Edge.faultAt(1, "law each ^al;");
        Edge.faultAt(1, "law each me=1 ^an all;");
        Edge.faultAt(1, "law each ^mee=1;");
        Edge.faultAt(1, "^123;");
        Edge.faultAt(1, "street ^123;");
        Edge.faultAt(1, "number 5 ^6;");
        Edge.faultAt(1, "law each 5=6 ^7;");
        for (int i = 0; i < PARTS.length; i++) {
            String ahead = joined(i, NONE) + " ";
            Edge.faulty(ahead + "!" + " " + rest(i + 1), 1, ahead.length());
        }
    }

    private static String rest(int from) {
        StringBuilder all = new StringBuilder();
        for (int i = from; i < PARTS.length; i++) {
            all.append(PARTS[i]).append(' ');
        }
        return all.toString();
    }

    private static void atTheTextsLength() {
        Edge.says(TERMS, "at the text's length, if it ends too soon");
        int statements = 0;
        for (int i = 1; i <= PARTS.length; i++) {
            String cut = joined(i, NONE);
            if (PARTS[i - 1].equals(";")) {
                statements++;
                Edge.good(cut, statements);
                continue;
            }
            Edge.faulty(cut, 1, cut.length());
            Edge.faulty(cut + " \n ", 1, cut.length() + 3);
        }
        String wide = "fire 7" + " ".repeat(1594);
        Edge.faulty(wide, 1, 1600);
    }

    private static void seventhLetterTenthDigit() {
        Edge.says(TERMS, "a 7th letter of what is no OWN WORD, a 10th digit at itself, whatever may stand there");
        for (int i = 0; i <= PARTS.length; i++) {
            String ahead = joined(i, NONE) + " ";
            Edge.faulty(ahead + "abcdefg", 1, ahead.length() + 6);
            Edge.faulty(ahead + "abcdefghijklmnop;", 1, ahead.length() + 6);
            Edge.faulty(ahead + "withins;", 1, ahead.length() + 6);
            Edge.faulty(ahead + "0000000000", 1, ahead.length() + 9);
            Edge.faulty(ahead + "12345678901234;", 1, ahead.length() + 9);
        }
    }

    private static void ownWordWhereANameMustBe() {
        Edge.says(TERMS, "an OWN WORD where a NAME must be)");
        for (String own : OWN_WORDS) {
            Edge.faultAt(1, OAK + "house x of ^" + own + " rooms 1;");
            Edge.faultAt(1, OAK + "lane ^" + own + " a;");
            Edge.faultAt(1, OAK + "lane a ^" + own + ";");
            Edge.faultAt(1, OAK + "number 5 in ^" + own + ";");
            Edge.faultAt(1, OAK + "owes ^" + own + " a 5;");
            Edge.faultAt(1, OAK + "owes a ^" + own + " 5;");
        }
    }

    private static void fault2() {
        Edge.says(TERMS, "2 a NAME to be given that is there already, at its first byte");
        Edge.faultAt(2, "street s;street  \n ^s;");
        Edge.faultAt(2, "street s;street ^s");
        Edge.faultAt(2, "street abcdef;house ^abcdef of abcdef rooms 1;");
        Edge.faultAt(2, OAK + "street ^c;");
        Edge.faultAt(2, TWELVE + "street ^l;");
        Edge.faultAt(2, Edge.times("street $;", 4) + "house ^d of d rooms 1;");
    }

    private static void fault3() {
        Edge.says(TERMS, "3 a NAME that is none of what is asked, or a HOUSE that can't be (no room, the same one, a NEIGHBOUR "
            + "already), at its first byte");
        Edge.faultAt(3, OAK + "house d of  ^b rooms 1;");
        Edge.faultAt(3, OAK + "lane a  \n^abc;");
        Edge.faultAt(3, OAK + "number 1 in c;number 2 in  ^c");
        Edge.faultAt(3, OAK + "lane b  ^b");
        Edge.faultAt(3, OAK + "owes b  ^b");
        Edge.faultAt(3, OAK + "lane b  ^c");
        Edge.good(OAK + "owes a b 1;owes b a 1;", 6);
    }

    private static void fault4() {
        Edge.says(TERMS, "4 a NUMBER that can't be (of V at its -, if it has one; 0, one that is there already), at its first "
            + "byte");
        Edge.faultAt(4, "number ^-0");
        Edge.faultAt(4, "number  ^-  0");
        Edge.faultAt(4, "number -5;number  ^-\n05;");
        Edge.faultAt(4, "number 5;number  ^05;");
        Edge.faultAt(4, "fire  ^000000101;");
        Edge.faultAt(4, OAK + "owes a b  ^0");
        Edge.faultAt(4, OAK + "house d of oak rooms  ^7");
        Edge.faultAt(1, "number -^;");
        Edge.faultAt(1, "number -^in a;");
    }

    private static void fault5AtTheEighth() {
        Edge.says(TERMS, "5 the 8th ( [ not that is open at once");
        for (int outer = 0; outer <= 7; outer++) {
            String ahead = "law each " + "[".repeat(outer) + "(".repeat(7 - outer);
            Edge.good(ahead + "1" + ")".repeat(7 - outer) + "=1" + "]".repeat(outer) + ";", 1);
            Edge.faultAt(5, ahead + (outer < 7 ? "^(1" : "^[all"));
            Edge.faultAt(5, ahead + (outer < 7 ? "min^(1" : "^not all"));
            String nots = "law each " + "not ".repeat(outer) + "(".repeat(7 - outer);
            Edge.good(nots + "1" + ")".repeat(7 - outer) + "=1;", 1);
            Edge.faultAt(5, nots + (outer < 7 ? "max^(1" : "^[all"));
            Edge.faultAt(5, nots + (outer < 7 ? "gcd ^(1" : "^not all"));
            Edge.faultAt(5, nots + (outer < 7 ? "me+me*^(1" : "me=^(1"));
        }
        Edge.faultAt(5, "wed not [not [not [not ^[not [all");
        Edge.faultAt(5, "wed [not [not [not [^not [all");
        Edge.faultAt(5, "wed [min(max(gcd((((^(1");
        Edge.faultAt(1, "law each (((((((1 ^(;");
        Edge.faultAt(1, "law each [[[[[[[all ^[all");
        Edge.faultAt(1, "law each [[[[[[[all^");
    }

    private static void fault5NotUntilItsFactEnds() {
        Edge.says(TERMS, "(not until its FACT ends), at it");
        Edge.good("law each " + "not all and ".repeat(20) + "all;", 1);
        Edge.good("law each " + "not all or ".repeat(20) + "all;", 1);
        Edge.good("law each not not not not not not not all and not not not not not not not all;", 1);
        Edge.good("law each not me=1 and (((((((1)))))))=1;", 1);
        Edge.faultAt(5, "law each not me=((((((^(1");
        Edge.faultAt(5, "law each not ((((((1))))))=((((((^(1");
        Edge.good("law each [[[[[[[all]]]]]]] and [[[[[[[all]]]]]]] or (((((((1)))))))+(((((((1)))))))=(((((((1)))))));", 1);
        Edge.good("law each min(((((((1)))))),((((((2)))))))=1;", 1);
        Edge.faultAt(5, "law each min(1,((((((^(2");
        Edge.good("law each [not [not [not [all]]]];", 1);
        Edge.faultAt(5, "law each [not [not [not [^[all");
        Edge.good("law each [not all or [not all or [not all or [all]]]];", 1);
        Edge.good("law each " + Edge.times("[[[[[[[me=#]]]]]]] or ", 9) + "all;", 1);
        Edge.good("law each not not not not not not not all;law each not not not not not not not all;wed [[[[[[[all]]]]]]];", 3);
    }

    private static void fault6OneTooMany() {
        Edge.says(TERMS, "6 one too many of a kind of STATEMENT");
        Edge.faultAt(6, Edge.times("street $;", 4) + " \n ^street");
        Edge.faultAt(6, TWELVE + " ^house");
        Edge.faultAt(6, TWELVE + Edge.times("street $$;", 3) + " ^street oak;");
        Edge.faultAt(6, TWELVE + Edge.times("lane a " + "$;", 12).substring("lane a a;lane a b;".length()) + " ^lane");
        Edge.faultAt(6, Edge.times("number -#;", 16) + " ^number");
        Edge.faultAt(6, Edge.times("law beside all;", 8) + " ^law");
        Edge.faultAt(6, "wed all; ^wed");
        Edge.faultAt(6, OAK + Edge.times("owes a b 5;", 16) + " ^owes");
        Edge.good(Edge.times("fire #;", 80), 80);
    }

    private static void fault6The81st() {
        Edge.says(TERMS, "or the 81st STATEMENT (whatever it is), at its first byte.");
        String eighty = Edge.times("fire #;", 80);
        for (String own : OWN_WORDS) {
            Edge.faultAt(6, eighty + "  ^" + own);
        }
        Edge.faultAt(6, eighty + " \n^street s;");
        Edge.faultAt(6, eighty + "^number 0;");
        Edge.faultAt(6, eighty + "^law");
        Edge.faultAt(6, eighty + "^abc;");
        Edge.faultAt(1, Edge.times("fire #;", 79) + "fire 5^");
        Edge.faultAt(4, Edge.times("fire #;", 79) + "number ^0;");
        Edge.faultAt(1, Edge.times("fire #;", 79) + "^abc;");
    }

    // ---- promises 1 to 5

    private static void p01NewObject() {
        Edge.says(1, "No STREETS, HOUSES, PEOPLE, LAWS");
        NumberDoor x = new NumberDoor();
        for (int what = 0; what <= 10; what++) {
            Edge.due("has(" + what + ")", x.has(what), 0);
        }
        for (int what = 0; what < 6; what++) {
            Edge.due("status(" + what + ")", x.status(what), 0);
        }
        Edge.due("letter(0, 0, 0)", x.letter(0, 0, 0), NONE);
        Edge.due("letter(1, 0, 0)", x.letter(1, 0, 0), NONE);
        Edge.due("house(0, 0)", x.house(0, 0), NONE);
        Edge.due("number(0)", x.number(0), NOBODY);
        Edge.due("person(0, 0)", x.person(0, 0), NONE);
        Edge.due("breach(0, 0)", x.breach(0, 0), NONE);
        Edge.due("may(0, 0)", x.may(0, 0), NONE);
        Edge.due("placed(NONE)", x.placed(NONE), 0);
        Edge.due("placed(0)", x.placed(0), NONE);
        Edge.due("holds(0, 0, 0)", x.holds(0, 0, 0), NONE);
        Edge.due("holds(8, 0, 0)", x.holds(8, 0, 0), NONE);
        Edge.due("weds(NONE)", x.weds(NONE), 0);
        Edge.due("weds(0)", x.weds(0), NONE);
        Edge.due("parts(0, NONE)", x.parts(0, NONE), NONE);
        Edge.due("friends(0)", x.friends(0), NONE);
        Edge.due("factor(0, 0)", x.factor(0, 0), NONE);
        Edge.due("quarrel(0)", x.quarrel(0), NONE);
        Edge.due("twins(2, NONE)", x.twins(2, NONE), 0);
        Edge.due("twins(2, 0)", x.twins(2, 0), NONE);
        Edge.due("sum(0, NONE)", x.sum(0, NONE), NONE);
        Edge.due("rent(0, NONE)", x.rent(0, NONE), NONE);
        Edge.due("net(0)", x.net(0), NOBODY);
        Edge.due("struck()", x.struck(), 0);
        Edge.due("hidden(0)", x.hidden(0), NONE);
        Edge.due("octet(0)", x.octet(0), NONE);
        Edge.due("move(0, NONE)", x.move(0, NONE), false);
        Edge.due("undo()", x.undo(), false);
        Edge.due("end(1)", x.end(1), false);
        Edge.due("end(0)", x.end(0), true);
        Edge.due("image()", x.image(), 5);
        Edge.due("town() of nothing", x.town(), 0);
    }

    private static void p01TheSeedIs1() {
        Edge.says(1, "the seed is 1.");
        NumberDoor x = new NumberDoor();
        Edge.due("has(11)", x.has(11), 1);
        x.years(1);
        Edge.due("has(11) a year later", x.has(11), Edge.seedAfter(1, 1));
        Edge.due("of another new object", new NumberDoor().has(11), 1);
    }

    private static void p02TwentyBytesBehind() {
        Edge.says(2, "Twenty bytes come behind those on the tape, of each number the highest first: how many there are");
        NumberDoor x = new NumberDoor();
        // "street abcdef;fire 1" and "7;" with blanks
        Edge.due("feed", x.feed(0x73747265, 0x65742061, 0x62636465, 0x663b6669, 0x72652031), 20);
        Edge.due("feed", x.feed(0x373b2020, 0x20202020, 0x20202020, 0x20202020, 0x20202020), 40);
        Edge.due("town", x.town(), 2);
        for (int k = 0; k < 6; k++) {
            Edge.due("letter " + k, x.letter(0, 0, k), k + 1);
        }
        Edge.due("feed", x.feed(0x66697265, 0x20373b20, 0, 0, 0), 20);
        Edge.due("end", x.end(7), true);
        Edge.due("feed behind seven", x.feed(0x66697265, 0x20383bff, -1, Integer.MIN_VALUE, Integer.MAX_VALUE), 27);
        Edge.due("town", x.town(), NONE);
        Edge.due("255, the lowest byte of the second number", x.fault(1), 14);
        for (int i = 1; i <= 80; i++) {
            Edge.due("feed " + i, x.feed(-1, 0, -1, 0, -1), 20 * i);
        }
        // One past the bridge with all sorts of bytes, the highest of them above 127: an image of -2.
        String bytes = Edge.image(1, 1, -2, 0);
        NumberDoor y = new NumberDoor();
        Edge.put(y, bytes);
        Edge.due("on()", y.on(), true);
        Edge.due("number(0)", y.number(0), -2);
    }

    private static NumberDoor fed(int length) {
        NumberDoor x = new NumberDoor();
        for (int i = 0; i < 80; i++) {
            x.feed(0x66697265, 0x20373b20, 0x20202020, 0x20202020, 0x20202020);
        }
        x.end(length);
        return x;
    }

    private static void p02RefusedAbove1600() {
        Edge.says(2, "NONE, refused (0), if there would be more than 1600.");
        Edge.due("to 1600", fed(1580).feed(0, 0, 0, 0, 0), 1600);
        Edge.due("to 1599", fed(1579).feed(0, 0, 0, 0, 0), 1599);
        for (int length : new int[] {1581, 1590, 1599, 1600}) {
            Edge.refused("feed behind " + length, () -> fed(length), x -> x.feed(0, 0, 0, 0, 0), NONE, 0, length);
        }
        NumberDoor x = fed(1600);
        x.feed(0x21212121, 0, 0, 0, 0);
        Edge.due("the tape is as it was", x.town(), 80);
        Edge.due("it went", x.feed(0, 0, 0, 0, 0), 20);
    }

    private static void p03FirstBytesAlone() {
        Edge.says(3, "The tape has its first n bytes alone: true");
        NumberDoor x = new NumberDoor();
        Edge.due("end(0) of an empty tape", x.end(0), true);
        Edge.put(x, "street s;street t;");
        Edge.due("all of it", x.end(18), true);
        Edge.due("half of it", x.end(9), true);
        Edge.due("what went is gone", x.end(10), false);
        Edge.due("town", x.town(), 1);
        Edge.put(x, "street s;");
        Edge.due("nothing", x.end(0), true);
        Edge.due("town of nothing", x.town(), 0);
        Edge.due("1600", fed(1600).end(1600), true);
        Edge.due("one byte", fed(1600).end(1), true);
    }

    private static void p03RefusedEnd() {
        Edge.says(3, "false, refused (0), if it has not so many, or n is below 0.");
        Edge.refused("end(8) of seven", Edge::busy, x -> x.end(8) ? 1 : 0, 0, 0, 7);
        Edge.refused("end(-1)", Edge::busy, x -> x.end(-1) ? 1 : 0, 0, 0, 7);
        Edge.refused("end(1601)", () -> fed(1600), x -> x.end(1601) ? 1 : 0, 0, 0, 1600);
        Edge.refused("end(1) of nothing", NumberDoor::new, x -> x.end(1) ? 1 : 0, 0, 0, 0);
        for (int n : Edge.WILD) {
            Edge.refused("end(" + n + ")", Edge::busy, x -> x.end(n) ? 1 : 0, 0, 0, 7);
        }
        NumberDoor x = Edge.busy();
        x.end(8);
        Edge.due("the tape is as it was", x.town(), 1);
    }

    private static void p04Statements() {
        Edge.says(4, "The tape (it goes, refused or not) is THE TOWN: how many STATEMENTS");
        NumberDoor x = new NumberDoor();
        Edge.due("of an empty tape", x.town(), 0);
        Edge.put(x, "street s;fire 1;");
        Edge.due("of two", x.town(), 2);
        Edge.due("it went", x.end(1), false);
        Edge.due("the town of nothing behind it", x.town(), 0);
        Edge.due("no STREETS", x.has(0), 0);
        Edge.put(x, Edge.times("fire #;", 80));
        Edge.due("of 80", x.town(), 80);
        Edge.put(x, "street s;!");
        Edge.due("refused", x.town(), NONE);
        Edge.due("it went too", x.end(1), false);
        StringBuilder longest = new StringBuilder("street s;");
        while (longest.length() < 1600) {
            longest.append(longest.length() == 1599 ? ";" : longest.length() == 1591 ? "street z" : " ");
        }
        Edge.good(longest.toString(), 2);
    }

    private static final String FULL = Edge.times("street s$;", 4) + Edge.times("house $ of sd rooms 3;", 11)
        + "house l of sa rooms 6;lane a c;lane a d;lane a e;lane a f;lane a g;lane a h;lane a i;lane a j;lane a k;lane a l;"
        + "number 2 in a;number 4 in a;number 220 in b;number 284 in b;number -6 in b;number 9;" + Edge.times("number 8# in l;", 4)
        + Edge.times("number -7# in d;", 3) + "number 5;number 7;number -2 in k;" + Edge.times("law within not all;", 4)
        + Edge.times("law beside me<other;", 4) + "wed all;" + "owes a b 7;owes c d 8;owes l a 9999;" + "fire 100;";

    private static String longLaw(int value) {
        StringBuilder text = new StringBuilder("number 7;number 8;law each me=0");
        while (text.length() < 1570) {
            text.append("+me*0");
        }
        return text.append('+').append(value).append(";wed me=7 and other=").append(value).append(';').toString();
    }

    private static void p04TheTown() {
        Edge.says(4, "is THE TOWN");
        String[] texts = {"", FULL, OAK + "number 6 in a;number 10 in b;number 220;law each all;", longLaw(7), longLaw(8),
            "street s;street t;house a of s rooms 1;house b of t rooms 1;number 284 in a;number 220 in b;law beside me>other;law each me>220;",
            "street t;house a of t rooms 2;number 3 in a;number 9;law each many=2;", "number 12;number 1;wed me>other or me<other;",
            "street t;house a of t rooms 2;number 3;number 9;number 27;law each many=2;"};
        for (String first : texts) {
            for (String second : texts) {
                NumberDoor x = new NumberDoor();
                Edge.put(x, first);
                x.town();
                x.placed(NONE);
                x.weds(NONE);
                x.breach(0, 0);
                for (int person = 0; person < x.has(3); person++) {
                    x.person(person, 4);
                }
                Edge.put(x, second);
                x.town();
                Edge.same("behind another town, " + second, Edge.allOfTown(x), Edge.allOfTown(Edge.town(second)));
            }
        }
        NumberDoor x = Edge.town(OAK);
        Edge.put(x, Edge.image(7, 1, 5, 1));
        Edge.due("on()", x.on(), true);
        Edge.put(x, Edge.image(8, 1, 5, 9));
        Edge.due("a wrong image", x.on(), false);
        Edge.put(x, OAK);
        x.town();
        Edge.same("behind images", Edge.allOfTown(x), Edge.allOfTown(Edge.town(OAK)));
    }

    private static void p04Refused() {
        Edge.says(4, "NONE, refused (1), with a FAULT (all stays).");
        String[] wrongOnes = {"!", "street s;street s;", "street q;house r of q rooms 2;number 5 in z;", "number 5;fire 101;",
            "law each ((((((((", "wed all;wed all;", "street q;law each all;number 5;number 7", "law each all;wed"};
        for (String text : wrongOnes) {
            Edge.refused("town() of " + text, () -> {
                NumberDoor x = Edge.busy();
                Edge.put(x, text);
                return x;
            }, x -> x.town(), NONE, 1, 0);
        }
    }

    private static void p04WithoutAFault() {
        Edge.says(4, "Without one it is YEAR 0, by day, nothing is told of HIDDEN ones, no ACT can be undone; the seed stays.");
        NumberDoor x = Edge.busy();
        x.years(2);
        int seed = x.has(11);
        Edge.due("it was night", x.has(9), 1);
        Edge.due("ACTS", x.has(10), 4);
        Edge.due("HIDDEN", x.hidden(0), 2);
        Edge.due("town of the tape", x.town(), 1);
        Edge.due("YEAR", x.has(8), 0);
        Edge.due("by day", x.has(9), 0);
        for (int k = 0; k < 4; k++) {
            Edge.due("hidden(" + k + ")", x.hidden(k), NONE);
        }
        Edge.due("ACTS", x.has(10), 0);
        Edge.due("undo()", x.undo(), false);
        Edge.due("the seed", x.has(11), seed);
        for (int what = 0; what <= 7; what++) {
            Edge.due("nothing is left of the old town, has(" + what + ")", x.has(what), 0);
        }
        Edge.due("nor of its wed", x.weds(NONE), 0);
        Edge.due("the image stays", x.octet(4) != NONE, true);
        Edge.due("refused so far", x.status(1), 0);
    }

    private static void p05Fault() {
        Edge.says(5, "Of the latest town(): its FAULT (what 0; 0 without, and ahead of any), its place (1; NONE without).");
        NumberDoor x = new NumberDoor();
        Edge.due("ahead of any", x.fault(0), 0);
        Edge.due("ahead of any", x.fault(1), NONE);
        Edge.put(x, "!");
        x.town();
        Edge.due("fault(0)", x.fault(0), 1);
        Edge.due("fault(1) at the first byte", x.fault(1), 0);
        x.tell();
        x.on();
        x.end(5);
        x.undo();
        Edge.due("other calls leave it", x.fault(0), 1);
        Edge.due("other calls leave it", x.fault(1), 0);
        Edge.put(x, "wed all;wed all;");
        x.town();
        Edge.due("the latest", x.fault(0), 6);
        Edge.due("the latest", x.fault(1), 8);
        x.town();
        Edge.due("without", x.fault(0), 0);
        Edge.due("without", x.fault(1), NONE);
    }

    private static void p05NoneForAnotherWhat() {
        Edge.says(5, "NONE for another what.");
        NumberDoor x = new NumberDoor();
        Edge.put(x, "street s;street s;");
        x.town();
        Edge.due("fault(2)", x.fault(2), NONE);
        Edge.due("fault(-1)", x.fault(-1), NONE);
        for (int what : Edge.WILD) {
            Edge.due("fault(" + what + ")", x.fault(what), NONE);
        }
    }
}
