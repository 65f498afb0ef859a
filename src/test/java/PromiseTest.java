/** The promises one by one: ordinary calls, the edges that the document names, wrong inputs. */
public final class PromiseTest {
    private static final int NONE = NumberDoor.NONE;
    private static final int NOBODY = NumberDoor.NOBODY;
    private static final String PLAIN = "street oak;house a of oak rooms 2;house b of oak rooms 3;house c of oak rooms 1;";

    private static int asked = 0;
    private static int wrong = 0;

    private static void due(int promise, String what, long got, long want) {
        asked++;
        if (got != want) {
            wrong++;
            System.out.println("promise " + promise + ": " + what + " answered " + got + ", due is " + want);
        }
    }

    private static void due(int promise, String what, boolean got, boolean want) {
        due(promise, what, got ? 1 : 0, want ? 1 : 0);
    }

    private static void put(NumberDoor x, String text) {
        for (int at = 0; at < text.length(); at += 20) {
            int[] words = new int[5];
            for (int k = 0; k < 20; k++) {
                int c = at + k < text.length() ? text.charAt(at + k) : 32;
                words[k / 4] |= c << (24 - 8 * (k % 4));
            }
            x.feed(words[0], words[1], words[2], words[3], words[4]);
        }
        x.end(text.length());
    }

    private static NumberDoor town(String text) {
        NumberDoor x = new NumberDoor();
        put(x, text);
        if (x.town() == NONE) {
            wrong++;
            System.out.println("refused with " + x.fault(0) + " at " + x.fault(1) + ": " + text);
        }
        return x;
    }

    private static void faulty(String text, int kind, int place) {
        NumberDoor x = new NumberDoor();
        put(x, text);
        due(4, "town() of " + text, x.town(), NONE);
        due(5, "fault(0) of " + text, x.fault(0), kind);
        due(5, "fault(1) of " + text, x.fault(1), place);
        due(36, "status(1)", x.status(1), 1);
    }

    /** Of a text whose fault is at the sign ^, which is left out. */
    private static void faultAt(int kind, String text) {
        int place = text.indexOf('^');
        faulty(text.substring(0, place) + text.substring(place + 1), kind, place);
    }

    private static void good(String text, int statements) {
        NumberDoor x = new NumberDoor();
        put(x, text);
        due(4, "town() of " + text, x.town(), statements);
        due(5, "fault(0) of " + text, x.fault(0), 0);
        due(5, "fault(1) of " + text, x.fault(1), NONE);
    }

    public static void main(String[] args) {
        newObject();
        tape();
        towns();
        manyTowns();
        faultsOfWords();
        faultsOfNames();
        faultsOfNumbers();
        faultsOfDepth();
        faultsOfLimits();
        counts();
        letters();
        houses();
        people();
        tests();
        breaches();
        mays();
        places();
        moves();
        nights();
        housings();
        yearsOf();
        undoing();
        seeds();
        weddings();
        partsAndFriends();
        factorsAndQuarrels();
        twinsOf();
        sums();
        rents();
        debts();
        hiddenOnes();
        images();
        wrongImages();
        refusals();
        System.out.println(asked + " answers asked, " + wrong + " wrong");
        if (wrong != 0) {
            System.exit(1);
        }
    }

    private static void newObject() {
        NumberDoor x = new NumberDoor();
        for (int what = 0; what <= 10; what++) {
            due(1, "has(" + what + ")", x.has(what), 0);
        }
        due(1, "has(11)", x.has(11), 1);
        due(1, "fault(0)", x.fault(0), 0);
        due(1, "fault(1)", x.fault(1), NONE);
        due(1, "octet(0)", x.octet(0), NONE);
        due(1, "hidden(0)", x.hidden(0), NONE);
        due(1, "NONE", NONE, -1);
        due(1, "NOBODY", NOBODY, -1000000000);
        for (int what = 0; what <= 5; what++) {
            due(1, "status(" + what + ")", x.status(what), 0);
        }
    }

    private static void tape() {
        NumberDoor x = new NumberDoor();
        for (int i = 1; i <= 80; i++) {
            due(2, "feed", x.feed(0x66697265, 0x20373b20, 0x20202020, 0x20202020, 0x20202020), 20 * i);
        }
        due(2, "an 81st feed", x.feed(0, 0, 0, 0, 0), NONE);
        due(2, "status(0)", x.status(0), 1);
        due(3, "end(1601)", x.end(1601), false);
        due(3, "end(-1)", x.end(-1), false);
        due(3, "end(MIN)", x.end(Integer.MIN_VALUE), false);
        due(3, "status(0)", x.status(0), 4);
        due(3, "end(1600)", x.end(1600), true);
        due(3, "end(1581)", x.end(1581), true);
        due(2, "feed behind 1581", x.feed(0, 0, 0, 0, 0), NONE);
        due(3, "end(1580)", x.end(1580), true);
        due(2, "feed behind 1580", x.feed(0x66697265, 0x20373b20, 0x20202020, 0x20202020, 0x20202020), 1600);
        due(4, "town of 80 statements", x.town(), 80);
        due(4, "the tape went", x.end(1), false);
        due(3, "end(0)", x.end(0), true);
        due(2, "feed of high bytes", x.feed(0x20202020, 0x202020ff, -1, 0, 0), 20);
        due(4, "town", x.town(), NONE);
        due(5, "the byte 255 at 7", x.fault(1), 7);
        due(4, "the tape went", x.end(1), false);
    }

    private static void towns() {
        good("", 0);
        good("  \n \n", 0);
        good("street a;", 1);
        good("street\na\n;\n", 1);
        good(PLAIN, 4);
        good(PLAIN + "lane a c;number 5 in a;number -5 in a;number - 7;number 000000007;fire 0;fire 100;", 11);
        good("law each all;law beside all;law within all;wed all;", 4);
        good("law each me=1 or me<2 and me>3 or not me=4 and[me=5];", 1);
        good("law each rooms+many-house*street/me%other=(1);", 1);
        good("law each square me and prime other or min(1,2)<max(3,gcd(4,5));", 1);
        good("law each not not not not not not not all;", 1);
        good("law each (((((((1)))))))=(((((((2)))))));", 1);
        good("law each not all and not all and not all and not all and not all and not all and not all and not all;", 1);
        good("street streea;street inn;street housex;street orall;", 4);
        NumberDoor x = town(PLAIN + "number 4 in a;number 6;fire 50;law each me<5;wed all;owes a b 7;");
        due(4, "seed", x.seed(77), true);
        due(4, "night", x.night(true), true);
        due(4, "years", x.years(2) >= 0, true);
        put(x, "\2\7\1");
        due(4, "tell", x.tell() > 0, true);
        int seed = x.has(11);
        put(x, "street a;street a;");
        due(4, "a faulty town", x.town(), NONE);
        due(4, "all stays: HOUSES", x.has(1), 3);
        due(4, "all stays: YEAR", x.has(8), 2);
        due(4, "all stays: night", x.has(9), 1);
        due(4, "all stays: ACTS", x.has(10), 2);
        due(4, "all stays: HIDDEN", x.hidden(0), 2);
        due(4, "all stays: LAWS", x.has(5), 1);
        put(x, "street z;");
        due(4, "another town", x.town(), 1);
        due(5, "its fault", x.fault(0), 0);
        due(4, "HOUSES", x.has(1), 0);
        due(4, "YEAR", x.has(8), 0);
        due(4, "night", x.has(9), 0);
        due(4, "ACTS", x.has(10), 0);
        due(4, "HIDDEN", x.hidden(0), NONE);
        due(4, "LAWS", x.has(5), 0);
        due(4, "PEOPLE", x.has(3), 0);
        due(4, "DEBTS", x.has(6), 0);
        due(4, "the seed stays", x.has(11), seed);
        due(5, "fault(2)", x.fault(2), NONE);
        due(5, "fault(-1)", x.fault(-1), NONE);
    }

    /** One object takes one town behind the other, each as long as a tape. */
    private static void manyTowns() {
        NumberDoor x = new NumberDoor();
        for (int i = 0; i < 5; i++) {
            StringBuilder text = new StringBuilder("number 7;law each me=").append(i).append(times(" or me+0=1", 40));
            text.append(" or me-").append(i + 5).append("=2;wed me=").append(i + 6).append(';');
            put(x, text.toString());
            due(4, "town " + i, x.town(), 3);
            due(14, "its law, " + i, x.holds(0, 0, 0), i == 0 ? 1 : 0);
            due(14, "its wed, " + i, x.holds(8, 0, 0), i == 1 ? 1 : 0);
        }
        StringBuilder long1 = new StringBuilder("number 7;law each me=0");
        while (long1.length() < 1580) {
            long1.append("+me*0");
        }
        for (int i = 0; i < 5; i++) {
            put(x, long1 + "+7;");
            due(4, "a long town " + i, x.town(), 2);
            due(14, "its law, " + i, x.holds(0, 0, 0), 1);
            due(14, "no wed, " + i, x.holds(8, 0, 0), NONE);
        }
    }

    private static void faultsOfWords() {
        faultAt(1, "^a;");
        faultAt(1, "^;");
        faultAt(1, "^7;");
        faultAt(1, "  ^)");
        faultAt(1, "street^");
        faultAt(1, "street ^");
        faultAt(1, "street a^");
        faultAt(1, "street a ^b;");
        faultAt(1, "street ^house;");
        faultAt(1, "street ^gcd;");
        faultAt(1, "street ^5;");
        faultAt(1, "street a^5;");
        faultAt(1, "street abcdef^g;");
        faultAt(1, "street abcdef^ghijklm;");
        faultAt(1, "street^s;");
        faultAt(1, "number^s 5;");
        faultAt(1, "abcdef^g;");
        faultAt(1, "street ^A;");
        faultAt(1, "street a^A;");
        faultAt(1, "^\t");
        faultAt(1, "street a;^\0");
        faultAt(1, "street a;street b^\u00e9;");
        faultAt(1, "street a;house b ^a;");
        faultAt(1, "street a;house b of ^rooms;");
        faultAt(1, "street a;house b of a ^2;");
        faultAt(1, "street a;house b of a rooms ^x;");
        faultAt(1, "street a;house b of a rooms^2;");
        faultAt(1, "number ^a;");
        faultAt(1, "number - ^a;");
        faultAt(1, "number - ^- 5;");
        faultAt(1, "number 5 ^of a;");
        faultAt(1, "number 5^in a;");
        faultAt(1, "number 123456789^0;");
        faultAt(1, "number -123456789^0;");
        faultAt(1, "street 123456789^0;");
        faultAt(1, "number^1234567890;");
        faultAt(1, "law ^near all;");
        faultAt(1, "law ^wed all;");
        faultAt(1, "law ^;");
        faultAt(1, "law each ^;");
        faultAt(1, "law each me^;");
        faultAt(1, "law each me=^;");
        faultAt(1, "law each me=1 ^=2;");
        faultAt(1, "law each me=^-1;");
        faultAt(1, "law each all ^all;");
        faultAt(1, "law each all ^+1;");
        faultAt(1, "law each not ^or all;");
        faultAt(1, "law each (me^=1);");
        faultAt(1, "law each [me=1^);");
        faultAt(1, "law each min ^me;");
        faultAt(1, "law each min(me^)=1;");
        faultAt(1, "law each gcd(me,1^,2)=1;");
        faultAt(1, "law each square ^all;");
        faultAt(1, "law each prime me^=1;");
        faultAt(1, "law each ^name=1;");
        faultAt(1, "law each me=5^me;");
        faultAt(1, "law each all^");
        faultAt(1, "fire ^-1;");
        faultAt(1, "fire 1 ^2;");
    }

    private static void faultsOfNames() {
        faultAt(2, "street a;street ^a;");
        faultAt(2, "street a;house ^a of b rooms 1;");
        faultAt(2, PLAIN + "street ^b;");
        faultAt(2, PLAIN + "house ^c");
        faultAt(3, "house a of ^b rooms 1;");
        faultAt(3, "house a of ^a rooms 1;");
        faultAt(3, PLAIN + "house d of ^a rooms 1;");
        faultAt(3, PLAIN + "lane ^oak a;");
        faultAt(3, PLAIN + "lane ^z a;");
        faultAt(3, PLAIN + "lane a ^oak;");
        faultAt(3, PLAIN + "lane a ^a;");
        faultAt(3, PLAIN + "lane a ^b;");
        faultAt(3, PLAIN + "lane b ^a;");
        faultAt(3, PLAIN + "lane a c;lane a ^c;");
        faultAt(3, PLAIN + "lane a c;lane c ^a;");
        faultAt(3, PLAIN + "number 1 in c;number 2 in ^c;");
        faultAt(3, PLAIN + "number 1 in ^oak;");
        faultAt(3, "number 1 in ^c;");
        faultAt(3, PLAIN + "owes a ^a 5;");
        faultAt(3, PLAIN + "owes ^oak a 5;");
        faultAt(3, PLAIN + "owes a ^q 5;");
        good(PLAIN + "owes a b 5;owes a b 5;owes b a 5;", 7);
        good(PLAIN + "street s;house d of s rooms 1;lane c d;lane a d;", 8);
    }

    private static void faultsOfNumbers() {
        faultAt(4, "number ^0;");
        faultAt(4, "number ^-0;");
        faultAt(4, "number  ^- 0;");
        faultAt(4, "number ^000;");
        faultAt(4, "number 5;number ^5;");
        faultAt(4, "number 5;number ^05;");
        faultAt(4, "number -5;number ^-5;");
        faultAt(4, "street a;house b of a rooms ^0;");
        faultAt(4, "street a;house b of a rooms ^7;");
        faultAt(4, PLAIN + "owes a b ^0;");
        faultAt(4, PLAIN + "owes a b ^10000;");
        faultAt(4, "fire ^101;");
        faultAt(4, "fire ^999999999");
        good(PLAIN + "owes a b 9999;owes a b 1;", 6);
        good("street a;house b of a rooms 6;house c of a rooms 01;", 3);
        good("number 5;number -5;number 999999999;number -999999999;", 4);
    }

    private static void faultsOfDepth() {
        faultAt(5, "law each not not not not not not not ^not all;");
        faultAt(5, "law each [[[[[[[^[all]]]]]]]];");
        faultAt(5, "law each (((((((^(1))))))))=1;");
        faultAt(5, "law each not [not [not [not ^(1)=1]]];");
        faultAt(5, "law each [[[[[[[1=min^(1,2)]]]]]]];");
        faultAt(5, "law each 1=1 and [[[[[[[all]]]]]]] and not [[[[[[^[all]]]]]]];");
        good("law each not [not [not [not all]]];", 1);
        good("law each min(((((((1)))))),((((((2)))))))=1;", 1);
        good("law each not (1)=(1) and not not not not not not (1)=(1);", 1);
        faultAt(1, "law each (((((((1 ^(;");
    }

    private static String times(String told, int many) {
        StringBuilder all = new StringBuilder();
        for (int i = 0; i < many; i++) {
            all.append(told.replace("#", Integer.toString(i + 1)).replace("$", Character.toString((char) ('a' + i))));
        }
        return all.toString();
    }

    private static void faultsOfLimits() {
        good(times("street $;", 4), 4);
        faultAt(6, times("street $;", 4) + "^street a;");
        String twelve = "street oak;" + times("house $ of oak rooms 6;", 12);
        good(twelve, 13);
        faultAt(6, twelve + "^house");
        String lanes = twelve + "lane a c;lane a d;lane a e;lane a f;lane a g;lane a h;lane a i;lane a j;lane a k;lane a l;";
        good(lanes, 23);
        faultAt(6, lanes + "^lane b d;");
        good(times("number #;", 16), 16);
        faultAt(6, times("number #;", 16) + "^number 1;");
        good(times("law each all;", 8), 8);
        faultAt(6, times("law each all;", 8) + " ^law each all;");
        faultAt(6, "wed all;^wed all;");
        good(PLAIN + times("owes a b #;", 16), 20);
        faultAt(6, PLAIN + times("owes a b #;", 16) + "^owes a b 1;");
        good(times("fire #;", 80), 80);
        faultAt(6, times("fire #;", 80) + "\n^fire 1;");
        faultAt(6, times("fire #;", 80) + "^abcdefgh");
        faultAt(6, times("fire #;", 80) + "^;");
    }

    private static void counts() {
        NumberDoor x = town(PLAIN + "street elm;lane a c;number 1 in a;number 2;number 3;law each me>1;law within all;"
            + "owes a b 1;owes b c 2;owes c a 3;");
        int[] want = {2, 3, 1, 3, 2, 2, 3, 1, 0, 0, 0, 1};
        for (int what = 0; what < want.length; what++) {
            due(6, "has(" + what + ")", x.has(what), want[what]);
        }
        due(6, "has(12)", x.has(12), NONE);
        due(6, "has(-1)", x.has(-1), NONE);
        due(6, "has(MAX)", x.has(Integer.MAX_VALUE), NONE);
        x.night(true);
        x.years(3);
        due(6, "has(8)", x.has(8), 3);
        due(6, "has(9)", x.has(9), 1);
        due(6, "has(10)", x.has(10), 2);
    }

    private static void letters() {
        NumberDoor x = town("street abcxyz;street q;house men of q rooms 1;");
        int[] want = {1, 2, 3, 24, 25, 26};
        for (int k = 0; k < 6; k++) {
            due(7, "letter(0, 0, " + k + ")", x.letter(0, 0, k), want[k]);
        }
        due(7, "letter(0, 1, 0)", x.letter(0, 1, 0), 17);
        due(7, "letter(0, 1, 1)", x.letter(0, 1, 1), 0);
        due(7, "letter(0, 1, 5)", x.letter(0, 1, 5), 0);
        due(7, "letter(1, 0, 0)", x.letter(1, 0, 0), 13);
        due(7, "letter(1, 0, 2)", x.letter(1, 0, 2), 14);
        due(7, "letter(1, 0, 3)", x.letter(1, 0, 3), 0);
        due(7, "letter(0, 0, 6)", x.letter(0, 0, 6), NONE);
        due(7, "letter(0, 0, -1)", x.letter(0, 0, -1), NONE);
        due(7, "letter(0, 2, 0)", x.letter(0, 2, 0), NONE);
        due(7, "letter(0, -1, 0)", x.letter(0, -1, 0), NONE);
        due(7, "letter(1, 1, 0)", x.letter(1, 1, 0), NONE);
        due(7, "letter(2, 0, 0)", x.letter(2, 0, 0), NONE);
        due(7, "letter(-1, 0, 0)", x.letter(-1, 0, 0), NONE);
    }

    private static void houses() {
        NumberDoor x = town("street oak;street elm;house a of oak rooms 2;house b of elm rooms 3;house c of oak rooms 1;"
            + "house d of oak rooms 6;lane b d;number 7 in b;number 8;number 9 in b;number 10 in c;");
        int[][] want = {{0, 2, 0, 0, 4}, {1, 3, 2, 0, 8}, {0, 1, 1, 1, 9}, {0, 6, 0, 2, 6}};
        for (int h = 0; h < 4; h++) {
            for (int what = 0; what < 5; what++) {
                due(8, "house(" + h + ", " + what + ")", x.house(h, what), want[h][what]);
            }
        }
        due(8, "house(1, 10)", x.house(1, 10), 0);
        due(8, "house(1, 11)", x.house(1, 11), 2);
        due(8, "house(1, 12)", x.house(1, 12), NONE);
        due(8, "house(2, 10)", x.house(2, 10), 3);
        due(8, "house(0, 10)", x.house(0, 10), NONE);
        due(8, "house(0, 5)", x.house(0, 5), NONE);
        due(8, "house(0, 9)", x.house(0, 9), NONE);
        due(8, "house(0, -1)", x.house(0, -1), NONE);
        due(8, "house(0, MIN)", x.house(0, Integer.MIN_VALUE), NONE);
        due(8, "house(0, MAX)", x.house(0, Integer.MAX_VALUE), NONE);
        due(8, "house(4, 0)", x.house(4, 0), NONE);
        due(8, "house(-1, 0)", x.house(-1, 0), NONE);
    }

    private static void people() {
        NumberDoor x = town(PLAIN + "number 6 in a;number -28 in b;number 7;number -7 in c;number 999999937;number 1;"
            + "number 12 in a;number -1;number 2;law within me=6;law beside other=6;law each me>0;");
        int[] numbers = {6, -28, 7, -7, 999999937, 1, 12, -1, 2};
        int[] homes = {0, 1, NONE, 2, NONE, NONE, 0, NONE, NONE};
        int[] primes = {0, 0, 1, 1, 1, 0, 0, 0, 1};
        int[] perfect = {1, 1, 0, 0, 0, 0, 0, 0, 0};
        for (int p = 0; p < numbers.length; p++) {
            due(9, "number(" + p + ")", x.number(p), numbers[p]);
            due(10, "person(" + p + ", 0)", x.person(p, 0), homes[p]);
            due(10, "person(" + p + ", 3)", x.person(p, 3), primes[p]);
            due(10, "person(" + p + ", 4)", x.person(p, 4), perfect[p]);
        }
        due(9, "number(9)", x.number(9), NOBODY);
        due(9, "number(-1)", x.number(-1), NOBODY);
        // within: (12, 6); beside, me then other: (6, -28), (-28, 12), (-28, -7), (-7, -28), (12, -28); each: -28, -7.
        due(10, "BREACHES", x.has(7), 8);
        due(10, "person(0, 1)", x.person(0, 1), 2);
        due(10, "person(1, 1)", x.person(1, 1), 6);
        due(10, "person(3, 1)", x.person(3, 1), 3);
        due(10, "person(6, 1)", x.person(6, 1), 3);
        due(10, "person(2, 1)", x.person(2, 1), 0);
        due(10, "person(0, 2)", x.person(0, 2), 2);
        due(10, "person(1, 2)", x.person(1, 2), 3);
        due(10, "person(3, 2)", x.person(3, 2), 1);
        due(10, "person(2, 2)", x.person(2, 2), 0);
        due(10, "person(0, 5)", x.person(0, 5), NONE);
        due(10, "person(0, -1)", x.person(0, -1), NONE);
        due(10, "person(9, 0)", x.person(9, 0), NONE);
        due(10, "person(-1, 3)", x.person(-1, 3), NONE);
    }

    private static void oneTest(String test, int number, int other, boolean want) {
        NumberDoor x = town("street s;street t;house g of s rooms 1;house h of t rooms 4;number " + number
            + " in h;number " + other + ";law each " + test + ";");
        due(14, test + " of " + number + ", " + other, x.holds(0, 0, 1), want ? 1 : 0);
    }

    private static void tests() {
        oneTest("me=7", 7, 8, true);
        oneTest("other=8", 7, 8, true);
        oneTest("rooms=4 and many=1 and house=1 and street=1", 7, 8, true);
        oneTest("0-7/2=0-4", 1, 2, false);
        oneTest("(0-7)/2=0-4", 1, 2, true);
        oneTest("(0-7)%2=1", 1, 2, true);
        oneTest("7/(0-2)=0-4", 1, 2, true);
        oneTest("7%(0-2)=0-1", 1, 2, true);
        oneTest("me/other=0-3 and me%other=1", -5, 2, true);
        oneTest("(0-8)/2=0-4 and (0-8)%2=0", 1, 2, true);
        oneTest("7/0=0 and 7%0=0 and (0-7)/0=0", 1, 2, true);
        oneTest("10-3-2=5", 1, 2, true);
        oneTest("24/4/2=3", 1, 2, true);
        oneTest("2+3*4=14", 1, 2, true);
        oneTest("100%7*2=4", 1, 2, true);
        oneTest("gcd(0-12,18)=6 and gcd(0,0)=0 and gcd(0,0-5)=5", 1, 2, true);
        oneTest("min(0-1,1)=0-1 and max(0-1,1)=1", 1, 2, true);
        oneTest("999999999+2=999999999+1", 1, 2, true);
        oneTest("999999999+1=999999999", 1, 2, false);
        oneTest("999999999*999999999/1000=1000000", 1, 2, true);
        oneTest("0-999999999-2=0-999999999-1", 1, 2, true);
        oneTest("(0-999999999)*5+999999999=0-1", 1, 2, true);
        oneTest("square 0 and square 1 and square 4 and square 999950884", 1, 2, true);
        oneTest("square 2 or square 3 or square 999999999 or square 0-4 or square 999950883", 1, 2, false);
        oneTest("prime 2 and prime 3 and prime 41 and prime 1681-2*41+40 and prime 999999937", 1, 2, false);
        oneTest("prime 2 and prime 3 and prime 41 and prime 1697 and prime 999999937", 1, 2, true);
        oneTest("prime 0 or prime 1 or prime 0-7 or prime 1681 or prime 999999938 or prime 25326001", 1, 2, false);
        oneTest("prime 3215031 or prime 561 or prime 2047 or prime 1373653 or prime 314821", 1, 2, false);
        oneTest("all or all and not all", 1, 2, true);
        oneTest("[all or all] and not all", 1, 2, false);
        oneTest("not all or all", 1, 2, true);
        oneTest("not [all or all]", 1, 2, false);
        oneTest("not not all", 1, 2, true);
        oneTest("not 1=1 or 2>1 and 1<2", 1, 2, true);
        oneTest("1>1 or 1<1", 1, 2, false);
        NumberDoor x = town(PLAIN + "number 5;number 6 in b;law beside rooms=0 and many=0 and house+1=0 and street+1=0;"
            + "law each other=6;wed me<other;");
        due(14, "of one past the bridge", x.holds(0, 0, 1), 1);
        due(14, "of one in a house", x.holds(0, 1, 0), 0);
        due(14, "an each law with other", x.holds(1, 0, 1), 1);
        due(14, "the same one twice", x.holds(1, 1, 1), 1);
        due(14, "the same one twice", x.holds(1, 0, 0), 0);
        due(14, "wed", x.holds(8, 0, 1), 1);
        due(14, "wed", x.holds(8, 1, 0), 0);
        due(14, "holds(2, 0, 0)", x.holds(2, 0, 0), NONE);
        due(14, "holds(-1, 0, 0)", x.holds(-1, 0, 0), NONE);
        due(14, "holds(9, 0, 0)", x.holds(9, 0, 0), NONE);
        due(14, "holds(0, 2, 0)", x.holds(0, 2, 0), NONE);
        due(14, "holds(0, 0, 2)", x.holds(0, 0, 2), NONE);
        due(14, "holds(0, -1, 0)", x.holds(0, -1, 0), NONE);
        due(14, "without wed", town("number 5;law each all;").holds(8, 0, 0), NONE);
    }

    private static void breachIs(NumberDoor x, int k, int law, int me, int other) {
        due(11, "breach(" + k + ", 0)", x.breach(k, 0), law);
        due(11, "breach(" + k + ", 1)", x.breach(k, 1), me);
        due(11, "breach(" + k + ", 2)", x.breach(k, 2), other);
    }

    private static void breaches() {
        NumberDoor x = town(PLAIN + "number 6 in b;number 3 in a;number 4 in b;number 9 in c;number 1;"
            + "law within me<other;law each other>0;law beside me>other;law each all;");
        // Of within: 6 with 4. Of each: all who live in a house, since other is 0. Of beside: the lesser with the greater.
        breachIs(x, 0, 0, 0, 2);
        breachIs(x, 1, 1, 0, NONE);
        breachIs(x, 2, 1, 1, NONE);
        breachIs(x, 3, 1, 2, NONE);
        breachIs(x, 4, 1, 3, NONE);
        breachIs(x, 5, 2, 0, 3);
        breachIs(x, 6, 2, 1, 0);
        breachIs(x, 7, 2, 1, 2);
        breachIs(x, 8, 2, 2, 3);
        due(11, "has(7)", x.has(7), 9);
        due(11, "breach(9, 0)", x.breach(9, 0), NONE);
        due(11, "breach(-1, 0)", x.breach(-1, 0), NONE);
        due(11, "breach(0, 3)", x.breach(0, 3), NONE);
        due(11, "breach(0, -1)", x.breach(0, -1), NONE);
        due(11, "a move changes them", x.move(3, NONE), true);
        due(11, "has(7)", x.has(7), 6);
        NumberDoor full = town("street s;house a of s rooms 6;house b of s rooms 6;house c of s rooms 6;"
            + times("number # in a;", 6) + times("number 1# in b;", 6) + times("number 2# in c;", 4)
            + times("law within not all;", 4) + times("law beside not all;", 4));
        // Within: 6*5 + 6*5 + 4*3 for each of four; beside: 2 * (6*6 + 6*4) for each of four.
        due(11, "has(7)", full.has(7), 4 * 72 + 4 * 120);
        breachIs(full, 767, 7, 15, 11);
    }

    private static void mays() {
        NumberDoor x = town(PLAIN + "number 6 in a;number 10;number 7 in b;number -9;number 15 in c;number 4 in a;"
            + "law beside gcd(me,other)=1;law within gcd(me,other)=1;law each many<3;");
        due(12, "10 in a, beside 7, within 6", x.may(1, 0), 0);
        due(12, "10 in b", x.may(1, 1), 0);
        due(12, "7 to a, where there is no room", x.may(2, 0), 0);
        due(12, "7 to c, where there is no room", x.may(2, 2), 0);
        due(12, "7 where he is", x.may(2, 1), 0);
        due(12, "6 to b, of 4 in a and 15 in c", x.may(0, 1), 0);
        due(12, "15 leaves", x.move(4, NONE), true);
        due(12, "7 to c", x.may(2, 2), 1);
        due(12, "-9 to c by day", x.may(3, 2), 1);
        due(12, "4 to b", x.may(5, 1), 0);
        due(12, "4 to c", x.may(5, 2), 1);
        due(12, "may(6, 0)", x.may(6, 0), NONE);
        due(12, "may(-1, 0)", x.may(-1, 0), NONE);
        due(12, "may(0, 3)", x.may(0, 3), NONE);
        due(12, "may(0, -1)", x.may(0, -1), NONE);
        // Others' breaches don't count, even those that his coming makes.
        NumberDoor y = town("street s;house a of s rooms 3;number 1 in a;number 2 in a;number 3;law each many<3 or me=3;");
        due(12, "3 to a", y.may(2, 0), 1);
        due(12, "but the town would not be lawful", y.placed(-1), 0);
        NumberDoor z = town("street s;house a of s rooms 3;number 4 in a;number 6 in a;number 3;law within gcd(me,other)=1 or me+other=10 and not all;");
        due(12, "3 to a: 6 is against him", z.may(2, 0), 0);
        NumberDoor w = town("street s;house a of s rooms 3;number 4 in a;number 3;law within me>3 or other>5;");
        due(12, "as me he breaks it", w.may(1, 0), 0);
        NumberDoor v = town("street s;house a of s rooms 3;number 4 in a;number 3;law within me=3;");
        due(12, "as other he breaks it", v.may(1, 0), 0);
    }

    private static void places() {
        NumberDoor x = town(PLAIN + "number 2;number 3;number 4;law within gcd(me,other)=1;law beside gcd(me,other)=1;");
        due(13, "all three", x.placed(-1), 3);
        due(13, "2", x.placed(0), 0);
        due(13, "3", x.placed(1), 0);
        due(13, "4", x.placed(2), 2);
        due(13, "placed(3)", x.placed(3), NONE);
        due(13, "placed(-2)", x.placed(-2), NONE);
        due(13, "placed(20)", x.placed(20), NONE);
        due(13, "one moves", x.move(0, 1), true);
        due(13, "two of whom one can", x.placed(-1), 1);
        due(13, "he who is housed", x.placed(0), NONE);
        due(13, "3", x.placed(1), 0);
        due(13, "4", x.placed(2), 20);
        NumberDoor four = town(PLAIN + times("number #;", 4));
        due(13, "four", four.placed(-1), NONE);
        due(13, "four", four.placed(0), NONE);
        NumberDoor can = town(PLAIN + "number 1 in a;number 2;law each me=2;");
        due(13, "it can't be", can.placed(-1), NONE);
        due(13, "it can't be", can.placed(1), NONE);
        // A breach of those who live there already may go when one comes.
        NumberDoor cure = town(PLAIN + "number 1 in a;number 2;law each many=2;");
        due(13, "a cure", cure.placed(-1), 1);
        due(13, "a cure", cure.placed(1), 0);
        NumberDoor rooms = town("street s;house a of s rooms 1;number 7;number 8;number 9;");
        due(13, "one room", rooms.placed(-1), 1);
        due(13, "7 has it", rooms.placed(0), 0);
        due(13, "8 has none", rooms.placed(1), 20);
        NumberDoor late = town("street s;house a of s rooms 1;number 7;number 8;number 9;law each me=9;");
        due(13, "9 has it", late.placed(2), 0);
        due(13, "7 has none", late.placed(0), 20);
        String twelve = "street s;" + times("house $ of s rooms 2;", 12) + "number 2 in l;number 4;number 6;number 8;";
        due(13, "the last house is torn", town(twelve + "law each not me=2;").placed(-1), NONE);
        NumberDoor last = town(twelve + "law each house=11 or me=4 and house=10;");
        due(13, "the last houses", last.placed(-1), 2);
        due(13, "4", last.placed(1), 10);
        due(13, "6", last.placed(2), 11);
        due(13, "8", last.placed(3), 20);
        NumberDoor nobody = town("street s;house a of s rooms 1;number 7 in a;");
        due(13, "nobody waits, lawful", nobody.placed(-1), 0);
        due(13, "nobody waits", nobody.placed(0), NONE);
        due(13, "nobody waits, unlawful", town("street s;house a of s rooms 1;number 7 in a;law each me=8;").placed(-1), NONE);
        due(13, "no HOUSES", town("number 7;").placed(-1), 0);
        due(13, "no HOUSES", town("number 7;").placed(0), 20);
    }

    private static void moves() {
        NumberDoor x = town(PLAIN + "number 5 in a;number -6;number 7 in c;");
        due(15, "to where he is", x.move(0, 0), false);
        due(15, "to a full house", x.move(0, 2), false);
        due(15, "past the bridge, who is there", x.move(1, NONE), false);
        due(15, "below 0 by day", x.move(1, 0), false);
        due(15, "move(3, 0)", x.move(3, 0), false);
        due(15, "move(-1, 0)", x.move(-1, 0), false);
        due(15, "move(0, 3)", x.move(0, 3), false);
        due(15, "move(0, -2)", x.move(0, -2), false);
        due(15, "status(2)", x.status(2), 8);
        due(15, "no act", x.has(10), 0);
        due(15, "move", x.move(0, 1), true);
        due(15, "home", x.person(0, 0), 1);
        due(15, "left", x.house(0, 2), 0);
        due(15, "past the bridge", x.move(2, NONE), true);
        due(15, "home", x.person(2, 0), NONE);
        due(15, "has(4)", x.has(4), 2);
        due(15, "now there is room", x.move(0, 2), true);
        x.night(true);
        due(15, "below 0 by night", x.move(1, 0), true);
        due(15, "above 0 by night", x.move(2, 0), true);
        due(15, "two rooms, two in them", x.move(0, 0), false);
        x.night(false);
        due(15, "below 0 leaves by day", x.move(1, NONE), false);
        due(15, "acts", x.has(10), 7);
        due(15, "laws don't matter", town(PLAIN + "number 1;law each not all;").move(0, 0), true);
    }

    private static void nights() {
        NumberDoor x = new NumberDoor();
        due(16, "day already", x.night(false), false);
        due(16, "night", x.night(true), true);
        due(16, "has(9)", x.has(9), 1);
        due(16, "night already", x.night(true), false);
        due(16, "day", x.night(false), true);
        due(16, "has(9)", x.has(9), 0);
        due(16, "has(10)", x.has(10), 2);
        due(16, "status(2)", x.status(2), 2);
    }

    private static void housings() {
        NumberDoor x = town(PLAIN + "number 4;number -3;number 6 in b;number 8;number 5;law within gcd(me,other)=1;");
        due(17, "by day", x.housed(), 3);
        due(17, "4", x.person(0, 0), 0);
        due(17, "-3", x.person(1, 0), NONE);
        due(17, "8", x.person(3, 0), 2);
        due(17, "5", x.person(4, 0), 0);
        due(17, "nobody more", x.housed(), 0);
        due(17, "an act all the same", x.has(10), 2);
        due(17, "undone", x.undo() && x.undo(), true);
        due(17, "4", x.person(0, 0), NONE);
        x.night(true);
        due(17, "by night", x.housed(), 4);
        due(17, "-3", x.person(1, 0), 0);
        due(17, "8", x.person(3, 0), 2);
        due(17, "5", x.person(4, 0), 1);
        due(17, "of a new object", new NumberDoor().housed(), 0);
    }

    private static void yearsOf() {
        NumberDoor empty = new NumberDoor();
        // x: 1103527590, then floor(x / 64) mod 1000 and 1.
        due(18, "a year", empty.years(1), 1);
        due(18, "the seed", empty.has(11), 1103527590);
        due(18, "the stranger", empty.number(0), 1103527590 / 64 % 1000 + 1);
        due(18, "past the bridge", empty.person(0, 0), NONE);
        due(18, "years(0)", empty.years(0), NONE);
        due(18, "years(51)", empty.years(51), NONE);
        due(18, "years(-1)", empty.years(-1), NONE);
        due(18, "status(3)", empty.status(3), 3);
        due(18, "has(10)", empty.has(10), 1);
        due(18, "50 years", empty.years(50) <= 15, true);
        due(18, "16 people", empty.has(3), 16);
        due(18, "YEAR", empty.has(8), 51);
        due(18, "nobody more", empty.years(50), 0);
        due(18, "YEAR", empty.has(8), 101);
        NumberDoor late = new NumberDoor();
        put(late, image(9950, 0));
        due(18, "on", late.on(), true);
        due(18, "beyond", late.years(50), NONE);
        due(18, "to 9999", late.years(49) >= 0, true);
        due(18, "YEAR", late.has(8), 9999);
        due(18, "beyond", late.years(1), NONE);
        due(18, "status(3)", late.status(3), 2);
        // One house: each year draws 1, 100, 1, 1000.
        NumberDoor child = town("street s;house a of s rooms 4;number 3 in a;number 10 in a;number -5;");
        due(18, "a child and a stranger", child.years(1), 2);
        due(18, "the child", child.number(3), 7);
        due(18, "lives there", child.person(3, 0), 0);
        due(18, "the stranger", child.number(4), stranger(1, 4));
        due(18, "the seed", child.has(11), drawn(1, 4));
        NumberDoor same = town("street s;house a of s rooms 4;number 3 in a;number 10 in a;number 7;");
        due(18, "a child who is there already", same.years(1), 1);
        NumberDoor full = town("street s;house a of s rooms 2;number 3 in a;number 10 in a;");
        due(18, "no room", full.years(1), 1);
        NumberDoor one = town("street s;house a of s rooms 2;number 3 in a;");
        due(18, "one alone", one.years(1), 1);
        NumberDoor great = town("street s;house a of s rooms 3;number -1 in a;number 999999999 in a;");
        due(18, "ten digits", great.years(1), 1);
        NumberDoor greatest = town("street s;house a of s rooms 3;number 1 in a;number -999999998 in a;");
        due(18, "nine digits", greatest.years(1), 2);
        due(18, "the child", greatest.number(2), 999999999);
        NumberDoor known = town("number " + stranger(1, 1) + ";");
        due(18, "a stranger who is there already", known.years(1), 0);
        NumberDoor minus = town("number -" + stranger(1, 1) + ";");
        due(18, "below 0 is another", minus.years(1), 1);
        NumberDoor fire = town("street s;house a of s rooms 3;number 3 in a;number 10 in a;fire 100;");
        due(18, "fire: no child", fire.years(1), 1);
        due(18, "fire", fire.has(4), 3);
        NumberDoor last = town("street s;house a of s rooms 3;number 3 in a;number 10 in a;fire 100;fire 0;");
        due(18, "the last fire counts", last.years(1), 2);
        int chance = drawn(1, 2) / 64 % 100;
        NumberDoor below = town("street s;house a of s rooms 1;number 3 in a;fire " + (chance + 1) + ";");
        below.years(1);
        due(18, "below fire", below.person(0, 0), NONE);
        NumberDoor above = town("street s;house a of s rooms 1;number 3 in a;fire " + chance + ";");
        above.years(1);
        due(18, "not below fire", above.person(0, 0), 0);
        NumberDoor crowd = town("street s;house a of s rooms 6;number 30 in a;number 99 in a;" + times("number 4#;", 14));
        due(18, "sixteen", crowd.years(1), 0);
        due(18, "the draws all the same", crowd.has(11), drawn(1, 4));
    }

    private static int drawn(long seed, int times) {
        long x = seed;
        for (int i = 0; i < times; i++) {
            x = Math.floorMod(1103515245L * x + 12345L, 2147483648L);
        }
        return (int) x;
    }

    private static int stranger(long seed, int times) {
        return drawn(seed, times) / 64 % 1000 + 1;
    }

    private static void undoing() {
        NumberDoor x = town(PLAIN + "number 5 in a;number 6;");
        due(19, "none", x.undo(), false);
        due(19, "status(4)", x.status(4), 1);
        x.move(0, 1);
        x.night(true);
        x.housed();
        int seed = x.has(11);
        x.years(5);
        int after = x.has(11);
        due(19, "years", x.undo(), true);
        due(19, "YEAR", x.has(8), 0);
        due(19, "PEOPLE", x.has(3), 2);
        due(19, "the seed stays", x.has(11), after);
        due(19, "and it is another one", after != seed, true);
        due(19, "housed", x.undo(), true);
        due(19, "6", x.person(1, 0), NONE);
        due(19, "night", x.undo(), true);
        due(19, "has(9)", x.has(9), 0);
        due(19, "move", x.undo(), true);
        due(19, "5", x.person(0, 0), 0);
        due(19, "none", x.undo(), false);
        for (int i = 0; i < 25; i++) {
            x.night(i % 2 == 0);
        }
        due(19, "20 at most", x.has(10), 20);
        for (int i = 0; i < 20; i++) {
            due(19, "undo " + i, x.undo(), true);
        }
        due(19, "no more", x.undo(), false);
        due(19, "as it was ahead of the last 20", x.has(9), 1);
        due(19, "status(4)", x.status(4), 3);
        NumberDoor y = town(PLAIN + "number 220;number 284;");
        due(19, "PARTS", y.parts(0, 0), 4);
        y.years(50);
        y.undo();
        due(19, "PARTS", y.parts(0, -1), 3);
        due(19, "FRIENDS", y.friends(0), 1);
    }

    private static void seeds() {
        NumberDoor x = new NumberDoor();
        due(20, "below 0", x.seed(-1), false);
        due(20, "below 0", x.seed(Integer.MIN_VALUE), false);
        due(20, "status(5)", x.status(5), 2);
        due(20, "it stays", x.has(11), 1);
        due(20, "0", x.seed(0), true);
        due(20, "has(11)", x.has(11), 0);
        x.years(1);
        due(20, "from 0", x.has(11), 12345);
        due(20, "the greatest", x.seed(Integer.MAX_VALUE), true);
        due(20, "has(11)", x.has(11), Integer.MAX_VALUE);
        x.years(1);
        due(20, "from there", x.has(11), drawn(2147483647L, 1));
        due(20, "no act", x.has(10), 2);
    }

    private static void couples(NumberDoor x, int many, int... partners) {
        due(21, "weds(-1)", x.weds(-1), many);
        for (int p = 0; p < partners.length; p++) {
            due(21, "weds(" + p + ")", x.weds(p), partners[p]);
        }
    }

    private static void weddings() {
        couples(town("number 1;number 2;"), 0, 20, 20);
        couples(town("number 1;number 2;wed all;"), 1, 1, 0);
        couples(town("number 1;number 2;wed me<other;"), 0, 20, 20);
        // A path 3-2-1-4 by the people's places: both ends must wed their neighbours.
        couples(town("number 2;number 3;number 1;number 4;wed [me*other=6 or me*other=2 or me*other=4] and not me=other;"), 2, 1, 0, 3, 2);
        couples(town(times("number #;", 5) + "wed all;"), 2, 1, 0, 3, 2, 20);
        couples(town(times("number #;", 16) + "wed all;"), 8, 1, 0, 3, 2, 5, 4, 7, 6, 9, 8, 11, 10, 13, 12, 15, 14);
        couples(town(times("number #;", 16) + "wed me+other=17;"), 8, 15, 14, 13, 12, 11, 10, 9, 8, 7, 6, 5, 4, 3, 2, 1, 0);
        // All wed the last one alone: the first of them does.
        couples(town(times("number #;", 16) + "wed me=16 or other=16;"), 1, 15, 20, 20, 20, 20, 20, 20, 20, 20, 20, 20, 20, 20, 20, 20, 0);
        // Two circles of three: one couple in each, nobody behind all.
        couples(town(times("number #;", 6) + "wed (me-1)/3=(other-1)/3;"), 2, 1, 0, 20, 4, 3, 20);
        // 1 with 2 would leave fewer.
        couples(town(times("number #;", 4) + "wed max(me,other)-min(me,other)=2 or me+other=3;"), 2, 2, 3, 0, 1);
        NumberDoor x = town(PLAIN + "number 1 in a;number 2;number 3;wed house=0 or house+1=0 and not other=3;");
        couples(x, 1, 1, 0, 20);
        x.move(1, 1);
        couples(x, 1, 2, 20, 0);
        x.move(2, 2);
        couples(x, 0, 20, 20, 20);
        due(21, "weds(3)", x.weds(3), NONE);
        due(21, "weds(-2)", x.weds(-2), NONE);
        due(21, "weds(20)", x.weds(20), NONE);
    }

    private static void partsAre(NumberDoor x, int p, long parts) {
        String digits = Long.toString(parts);
        due(22, "parts(" + p + ", -1)", x.parts(p, -1), digits.length());
        for (int k = 0; k < digits.length(); k++) {
            due(22, "parts(" + p + ", " + k + ")", x.parts(p, k), digits.charAt(digits.length() - 1 - k) - '0');
        }
        due(22, "parts behind", x.parts(p, digits.length()), NONE);
        due(22, "parts(" + p + ", -2)", x.parts(p, -2), NONE);
    }

    private static void partsAndFriends() {
        NumberDoor x = town("number 220;number -12;number 1;number 2;number -284;number 999999937;number 735134400;"
            + "number 999950884;number 1184;number 284;number -1210;number 536870912;number 998244353;");
        long[] want = {284, 16, 0, 1, 220, 1};
        for (int p = 0; p < want.length; p++) {
            partsAre(x, p, want[p]);
        }
        // 735134400 is 2^6 3^3 5^2 7 11 13 17; 999950884 is 2^2 97^2 163^2.
        partsAre(x, 6, 127L * 40 * 31 * 8 * 12 * 14 * 18 - 735134400L);
        partsAre(x, 7, 7L * (1 + 97 + 97 * 97) * (1 + 163 + 163 * 163) - 999950884L);
        partsAre(x, 11, 536870911);
        partsAre(x, 12, 1);
        due(22, "parts(13, 0)", x.parts(13, 0), NONE);
        due(22, "parts(-1, 0)", x.parts(-1, 0), NONE);
        due(23, "friends(0)", x.friends(0), 4);
        due(23, "friends(1)", x.friends(1), 9);
        due(23, "friends(2)", x.friends(2), 810);
        due(23, "friends(3)", x.friends(3), NONE);
        due(23, "friends(-1)", x.friends(-1), NONE);
        due(23, "perfect ones are no friends", town("number 6;number -6;number 28;").friends(0), NONE);
        due(23, "one's PARTS alone", town("number 12;number 16;number 15;").friends(0), NONE);
    }

    private static void factorsAndQuarrels() {
        NumberDoor x = town(PLAIN + "street elm;house d of elm rooms 3;lane a d;number 6 in a;number -9 in b;number 4 in c;"
            + "number 10 in d;number 35 in d;number 6000;number 1 in b;number 3 in a;");
        due(24, "factor(0, 1)", x.factor(0, 1), 3);
        due(24, "factor(1, 0)", x.factor(1, 0), 3);
        due(24, "factor(0, 5)", x.factor(0, 5), 6);
        due(24, "factor(1, 1)", x.factor(1, 1), 9);
        due(24, "factor(2, 4)", x.factor(2, 4), 1);
        due(24, "factor(0, 8)", x.factor(0, 8), NONE);
        due(24, "factor(8, 0)", x.factor(8, 0), NONE);
        due(24, "factor(-1, 0)", x.factor(-1, 0), NONE);
        due(24, "factor(0, -1)", x.factor(0, -1), NONE);
        // 6 and -9, 6 and 10 by the lane, 6 and 3 in one house; -9 and 3; 10 and 35 in one house. 6 and 4 are no neighbours.
        int[] want = {1, 3, 7, 107, 304};
        for (int k = 0; k < want.length; k++) {
            due(25, "quarrel(" + k + ")", x.quarrel(k), want[k]);
        }
        due(25, "quarrel(5)", x.quarrel(5), NONE);
        due(25, "quarrel(-1)", x.quarrel(-1), NONE);
        due(25, "quarrel(MIN)", x.quarrel(Integer.MIN_VALUE), NONE);
        due(25, "two ones", town(PLAIN + "number 1 in a;number -1 in a;number 2;number -2;").quarrel(0), NONE);
    }

    private static void twinsOf() {
        NumberDoor x = town("number 7;number -3;number 2;number 12;number 8;");
        due(26, "by 5", x.twins(5, -1), 2);
        due(26, "by 5", x.twins(5, 0), 3);
        due(26, "by 5: -3 leaves 2", x.twins(5, 1), 3);
        due(26, "by 5", x.twins(5, 4), 0);
        due(26, "by 10", x.twins(10, -1), 3);
        due(26, "by 10", x.twins(10, 1), 1);
        due(26, "by 2", x.twins(2, -1), 2);
        due(26, "by 99", x.twins(99, -1), 5);
        due(26, "by 1", x.twins(1, -1), NONE);
        due(26, "by 100", x.twins(100, -1), NONE);
        due(26, "by 0", x.twins(0, 0), NONE);
        due(26, "by -5", x.twins(-5, 0), NONE);
        due(26, "twins(5, 5)", x.twins(5, 5), NONE);
        due(26, "twins(5, -2)", x.twins(5, -2), NONE);
    }

    private static void sums() {
        NumberDoor x = town("street s;street t;street u;house a of s rooms 3;house b of t rooms 2;house c of s rooms 3;"
            + "number 5 in c;number 95 in a;number -7 in a;number 999 in b;number 1 in b;number 893;");
        // 0 + 95: none; 95 + 7 = 102: two carries in a row; 102 + 5: none.
        due(27, "digits", x.sum(0, -1), 3);
        due(27, "digit 0", x.sum(0, 0), 7);
        due(27, "digit 1", x.sum(0, 1), 0);
        due(27, "digit 2", x.sum(0, 2), 1);
        due(27, "digit 3", x.sum(0, 3), NONE);
        due(27, "digit 19", x.sum(0, 19), NONE);
        due(27, "carries", x.sum(0, 20), 2);
        due(27, "in a row", x.sum(0, 21), 2);
        due(27, "digits", x.sum(1, -1), 4);
        due(27, "carries", x.sum(1, 20), 3);
        due(27, "in a row", x.sum(1, 21), 3);
        due(27, "an empty street", x.sum(2, -1), 1);
        due(27, "an empty street", x.sum(2, 0), 0);
        due(27, "an empty street", x.sum(2, 1), NONE);
        due(27, "an empty street", x.sum(2, 20), 0);
        due(27, "sum(3, 0)", x.sum(3, 0), NONE);
        due(27, "sum(-1, 0)", x.sum(-1, 0), NONE);
        due(27, "sum(0, 22)", x.sum(0, 22), NONE);
        due(27, "sum(0, -2)", x.sum(0, -2), NONE);
        // 5 + 90 + 5 carries at two places behind one another, 5 + 5 + 90 at one place twice.
        NumberDoor order = town("street s;house a of s rooms 3;house b of s rooms 3;number 5 in a;number -5 in b;number 90 in a;");
        due(27, "by houses first", order.sum(0, 21), 2);
        NumberDoor apart = town("street s;house a of s rooms 3;number 9090909 in a;number 1010101 in a;number 899 in a;");
        due(27, "carries apart", apart.sum(0, 20), 5);
        due(27, "in one adding", apart.sum(0, 21), 1);
        NumberDoor great = town("street s;" + times("house $ of s rooms 6;", 3) + times("number 99999999# in a;", 6)
            + times("number -99999999# in b;", 6) + times("number 99999998# in c;", 4));
        long total = 0;
        for (int i = 1; i <= 6; i++) {
            total += 2 * (999999990L + i);
        }
        for (int i = 1; i <= 4; i++) {
            total += 999999980L + i;
        }
        String shown = Long.toString(total);
        due(27, "sixteen great ones", great.sum(0, -1), shown.length());
        for (int k = 0; k < shown.length(); k++) {
            due(27, "digit " + k, great.sum(0, k), shown.charAt(shown.length() - 1 - k) - '0');
        }
    }

    private static void rents() {
        NumberDoor x = town(PLAIN + "street t;house d of t rooms 6;number -12 in a;number 12 in a;number 1 in c;"
            + "number 999999999 in d;number -999999999 in d;number 999999998 in d;number 999999997 in d;"
            + "number -999999998 in d;number -999999997 in d;number 5;");
        due(28, "digits", x.rent(0, -1), 3);
        due(28, "digit 0", x.rent(0, 0), 4);
        due(28, "digit 1", x.rent(0, 1), 4);
        due(28, "digit 2", x.rent(0, 2), 1);
        due(28, "digit 3", x.rent(0, 3), NONE);
        due(28, "an empty house", x.rent(1, -1), 1);
        due(28, "an empty house", x.rent(1, 0), 0);
        due(28, "an empty house", x.rent(1, 1), NONE);
        due(28, "of 1", x.rent(2, 0), 1);
        java.math.BigInteger all = java.math.BigInteger.ONE;
        for (int number = 999999997; number <= 999999999; number++) {
            all = all.multiply(java.math.BigInteger.valueOf(number).pow(2));
        }
        String shown = all.toString();
        due(28, "54 digits", x.rent(3, -1), shown.length());
        for (int k = 0; k < shown.length(); k++) {
            due(28, "digit " + k, x.rent(3, k), shown.charAt(shown.length() - 1 - k) - '0');
        }
        due(28, "behind it", x.rent(3, 54), NONE);
        due(28, "rent(0, -2)", x.rent(0, -2), NONE);
        due(28, "rent(4, -1)", x.rent(4, -1), NONE);
        due(28, "rent(-1, -1)", x.rent(-1, -1), NONE);
    }

    private static void debts() {
        NumberDoor x = town("street s;" + times("house $ of s rooms 1;", 6)
            + "owes a b 10;owes b c 10;owes d e 5;owes d f 3;owes a b 1;owes b a 4;");
        int[] want = {-7, -3, 10, -8, 5, 3};
        for (int h = 0; h < want.length; h++) {
            due(29, "net(" + h + ")", x.net(h), want[h]);
        }
        due(29, "net(6)", x.net(6), NOBODY);
        due(29, "net(-1)", x.net(-1), NOBODY);
        // {a, b, c} and {d, e, f}: two payments each.
        due(30, "struck()", x.struck(), 4);
        due(30, "no debts", town(PLAIN).struck(), 0);
        due(30, "a new object", new NumberDoor().struck(), 0);
        due(30, "a circle", town(PLAIN + "owes a b 5;owes b c 5;owes c a 5;").struck(), 0);
        due(30, "one", town(PLAIN + "owes a b 5;").struck(), 1);
        due(30, "a chain", town(PLAIN + "owes a b 5;owes b c 5;").struck(), 1);
        due(30, "two to one", town(PLAIN + "owes a b 5;owes c b 5;").struck(), 2);
        String twelve = "street s;" + times("house $ of s rooms 1;", 12);
        due(30, "six pairs", town(twelve + "owes a b 1;owes c d 2;owes e f 3;owes g h 4;owes i j 5;owes k l 6;").struck(), 6);
        due(30, "one to eleven", town(twelve + "owes a b 1;owes a c 2;owes a d 4;owes a e 8;owes a f 16;owes a g 32;"
            + "owes a h 64;owes a i 128;owes a j 256;owes a k 512;owes a l 1024;").struck(), 11);
        // Nets -3 -3 -4 2 2 6: {-4, 2, 2} and {-3, -3, 6}; by greatest ones first it would be five.
        due(30, "greed does not do", town("street s;" + times("house $ of s rooms 1;", 6)
            + "owes a f 3;owes b f 3;owes c d 2;owes c e 2;").struck(), 4);
    }

    private static void told(int rows, String bytes, int... least) {
        NumberDoor x = new NumberDoor();
        put(x, bytes);
        due(31, "tell()", x.tell(), rows);
        for (int k = 0; k < least.length; k++) {
            due(32, "hidden(" + k + ")", x.hidden(k), least[k]);
        }
        due(32, "hidden behind", x.hidden(least.length), NONE);
        due(32, "hidden(-1)", x.hidden(-1), NONE);
        due(31, "the tape went", x.end(1), false);
    }

    private static void hiddenOnes() {
        told(1, "\2\1\0", 1, 1);
        told(0, "\2\1\1");
        told(3, "\2\2\0", 1, 1);
        told(1, "\2\2\1", 2, 2);
        // Of 1 .. 4: 2-2 2-4 4-2 4-4 3-3.
        told(5, "\2\4\1", 2, 2);
        told(11, "\2\4\0", 1, 1);
        // Number 0 quarrels with both of two who don't: 6 with 2 or 4 and 3, both ways.
        told(4, "\3\6\1\1\0", 6, 2, 3);
        // Of four, 0-1, 1-2, 2-3 alone would need four numbers in a row: 2 6 15 5 and the like.
        NumberDoor path = new NumberDoor();
        put(path, "\4\30\1\0\0\1\0\1");
        due(31, "a path", path.tell() > 0, true);
        int[] least = {2, 6, 15, 5};
        for (int k = 0; k < 4; k++) {
            due(32, "hidden(" + k + ")", path.hidden(k), least[k]);
        }
        String[] wrongOnes = {"", "\2", "\2\7", "\1\7", "\5\7\0\0\0\0\0\0\0\0\0\0", "\2\0\0", "\2\31\0", "\2\7\2",
            "\2\7\0\0", "\3\7\0\0", "\4\7\0\0\0\0\0", "\0\7\0", "\2\u00ff\0"};
        int refused = 0;
        for (String bytes : wrongOnes) {
            put(path, bytes);
            due(31, "tell() of none such", path.tell(), NONE);
            refused++;
            due(31, "status(5)", path.status(5), refused);
            due(31, "the tape went", path.end(1), false);
        }
        due(31, "all stays", path.hidden(1), 6);
        put(path, "\2\1\1");
        due(31, "no rows", path.tell(), 0);
        due(32, "no rows", path.hidden(0), NONE);
    }

    /** An image of these, each number with its house and 1, with the last byte that fits. */
    private static String image(int year, int night, int... told) {
        StringBuilder all = new StringBuilder();
        all.append((char) (year >> 8)).append((char) (year & 255)).append((char) night).append((char) (told.length / 2));
        for (int i = 0; i < told.length; i += 2) {
            for (int shift = 24; shift >= 0; shift -= 8) {
                all.append((char) (told[i] >>> shift & 255));
            }
            all.append((char) told[i + 1]);
        }
        int c = 73;
        for (int k = 0; k < all.length(); k++) {
            c = (5 * c + all.charAt(k)) % 251;
        }
        return all.append((char) c).toString();
    }

    private static void images() {
        NumberDoor x = town(PLAIN + "number 5 in b;number -999999999;number 258 in c;");
        x.years(1);
        x.night(true);
        due(33, "image()", x.image(), 25);
        String want = image(1, 1, 5, 2, -999999999, 0, 258, 3, x.number(3), 0);
        for (int k = 0; k < 25; k++) {
            due(34, "octet(" + k + ")", x.octet(k), want.charAt(k));
        }
        due(34, "octet(25)", x.octet(25), NONE);
        due(34, "octet(-1)", x.octet(-1), NONE);
        x.move(0, 0);
        due(34, "the latest image stays", x.octet(8), 2);
        put(x, "street q;");
        x.town();
        due(34, "behind another town too", x.octet(24), want.charAt(24));
        due(33, "image()", x.image(), 5);
        due(34, "octet(5)", x.octet(5), NONE);
        due(34, "octet(4)", x.octet(4), image(0, 0).charAt(4));
        NumberDoor y = town(PLAIN + "number 77 in a;law each me<0;");
        y.seed(5);
        put(y, "\2\2\1");
        y.tell();
        y.night(true);
        y.undo();
        y.move(0, 1);
        put(y, image(9999, 1, -8, 1, 999999999, 0, -999999999, 1, 9, 3));
        due(35, "on()", y.on(), true);
        due(35, "YEAR", y.has(8), 9999);
        due(35, "night", y.has(9), 1);
        due(35, "PEOPLE", y.has(3), 4);
        due(35, "PAST THE BRIDGE", y.has(4), 1);
        due(35, "number(0)", y.number(0), -8);
        due(35, "number(1)", y.number(1), 999999999);
        due(35, "number(2)", y.number(2), -999999999);
        due(35, "house", y.person(3, 0), 2);
        due(35, "living", y.house(0, 2), 2);
        due(35, "living", y.house(1, 2), 0);
        due(35, "BREACHES anew", y.has(7), 1);
        due(35, "no act", y.undo(), false);
        due(35, "the seed stays", y.has(11), 5);
        due(35, "HIDDEN stay", y.hidden(0), 2);
        due(35, "the tape went", y.end(1), false);
        put(y, image(0, 0));
        due(35, "nobody", y.on(), true);
        due(35, "nobody", y.has(3), 0);
    }

    private static void wrongImages() {
        NumberDoor x = town(PLAIN + "number 77 in a;");
        x.move(0, 1);
        String good = image(3, 1, 5, 2, 6, 2);
        String[] wrongOnes = {"", good.substring(0, 4), good.substring(0, 14), good + "\0",
            good.substring(0, 14) + (char) (good.charAt(14) + 1), image(10000, 0), image(0, 2), image(0, 0, 0, 0),
            image(0, 0, 5, 0, 5, 1), image(0, 0, 1000000000, 0), image(0, 0, -1000000000, 0), image(0, 0, 5, 4),
            image(0, 0, 5, 255), image(0, 0, 5, 3, 6, 3), image(0, 0, 5, 1, 6, 1, 7, 1),
            image(0, 0, Integer.MIN_VALUE, 0), image(65535, 0), many(17)};
        for (int i = 0; i < wrongOnes.length; i++) {
            put(x, wrongOnes[i]);
            due(35, "on() of none such, " + i, x.on(), false);
            due(35, "status(5)", x.status(5), i + 1);
            due(35, "the tape went", x.end(1), false);
        }
        due(35, "all stays", x.number(0), 77);
        due(35, "all stays", x.person(0, 0), 1);
        due(35, "all stays", x.has(8), 0);
        due(35, "all stays", x.has(10), 1);
        put(x, many(16));
        due(35, "sixteen", x.on(), true);
        due(35, "sixteen", x.number(15), 16);
        due(33, "85 bytes", x.image(), 85);
        put(x, good);
        due(35, "a good one", x.on(), true);
        due(35, "rooms are full now", x.move(0, 0) && x.move(1, 0), true);
        NumberDoor empty = new NumberDoor();
        put(empty, image(0, 0, 5, 1));
        due(35, "no HOUSES", empty.on(), false);
        put(empty, image(0, 0, 5, 0));
        due(35, "past the bridge", empty.on(), true);
    }

    private static String many(int n) {
        int[] told = new int[2 * n];
        for (int i = 0; i < n; i++) {
            told[2 * i] = i + 1;
        }
        return image(0, 0, told);
    }

    private static void refusals() {
        NumberDoor x = new NumberDoor();
        x.end(1);
        put(x, "no");
        x.town();
        x.move(0, 0);
        x.night(false);
        x.years(0);
        x.undo();
        x.seed(-5);
        x.tell();
        x.on();
        int[] want = {1, 1, 2, 1, 1, 3};
        for (int what = 0; what < want.length; what++) {
            due(36, "status(" + what + ")", x.status(what), want[what]);
        }
        due(36, "status(6)", x.status(6), NONE);
        due(36, "status(-1)", x.status(-1), NONE);
        due(36, "status(MAX)", x.status(Integer.MAX_VALUE), NONE);
        x.letter(0, 0, 0);
        x.may(5, 5);
        x.weds(99);
        due(36, "what only asks is not refused", x.status(0) + x.status(1) + x.status(2), 4);
    }
}
