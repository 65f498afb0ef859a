import java.util.function.IntPredicate;

/** Boundary cases of the life in town, sentence by sentence: the terms under II, promises 6 to 20. */
public final class BoundaryTownTest {
    private static final int NONE = Edge.NONE;
    private static final int NOBODY = Edge.NOBODY;
    private static final int TERMS = Edge.TERMS;
    private static final String OAK = "street oak;house a of oak rooms 2;house b of oak rooms 3;house c of oak rooms 1;";
    private static final String TWELVE = "street oak;" + Edge.times("house $ of oak rooms 6;", 12);
    private static final String ONE_HOUSE = "street s;house a of s rooms 4;";

    public static void main(String[] args) {
        asTheyAreTold();
        neighbours();
        asManyAsItHasRooms();
        brokenOfEach();
        brokenOfBeside();
        brokenOfWithin();
        breachesInOrder();
        lawfulWithoutAny();
        mayInWhichHeIsNot();
        mayIfThereIsRoom();
        mayNoBreachWithHim();
        placed3AtMost();
        placedRoomsAreKept();
        placedOfLikeOnes();
        placedOfAllWays();
        placedForThoseWhoLiveThere();
        dayAtFirst();
        actsMoves();
        actsHoused();
        actsTheLast20();
        yearFire();
        yearChild();
        yearChildNumber();
        yearStranger();
        yearSixteen();
        yearWithoutHouses();
        yearCounts();
        drawWrapsAround();
        drawOfHouses();
        p06Has();
        p06NoneForOthers();
        p07Letter();
        p08House();
        p08NoneSuch();
        p09Number();
        p10Person();
        p10NoneSuch();
        p11Breach();
        p11NoneSuch();
        p12May();
        p13Placed();
        p13None();
        p14Holds();
        p14NoneSuch();
        p15Move();
        p15Refused();
        p16Night();
        p16Refused();
        p17Housed();
        p18Years();
        p18Refused();
        p19Undo();
        p19AllThatActsChange();
        p19Refused();
        p20Seed();
        p20Refused();
        Edge.finish(6, 20);
    }

    // ---- houses, laws

    private static void neighbours() {
        Edge.says(TERMS, "NEIGHBOURS are two that stand one behind the other on it, or have a LANE.");
        NumberDoor x = Edge.town("street s;street t;house a of s rooms 1;house b of t rooms 1;house c of s rooms 1;"
            + "house d of s rooms 1;house e of t rooms 1;lane a e;lane d b;");
        int[] want = {1 << 2 | 1 << 4, 1 << 4 | 1 << 3, 1 | 1 << 3, 1 << 2 | 1 << 1, 1 << 1 | 1};
        for (int house = 0; house < 5; house++) {
            Edge.due("neighbours of " + house, x.house(house, 4), want[house]);
        }
        Edge.due("one alone", Edge.town(ONE_HOUSE).house(0, 4), 0);
        Edge.due("the ends of streets are none", Edge.town("street s;street t;house a of s rooms 1;house b of t rooms 1;")
            .house(0, 4), 0);
        Edge.due("the first and the last are none", Edge.town(OAK).house(0, 4), 2);
    }

    private static void asTheyAreTold() {
        Edge.says(TERMS, "HOUSES of a STREET stand as they are told");
        NumberDoor x = Edge.town("street s;street t;house e of s rooms 1;house b of t rooms 1;house c of s rooms 1;"
            + "house a of s rooms 1;house d of t rooms 1;");
        int[] places = {0, 0, 1, 2, 1};
        int[] streets = {0, 1, 0, 0, 1};
        for (int house = 0; house < 5; house++) {
            Edge.due("place of " + house, x.house(house, 3), places[house]);
            Edge.due("street of " + house, x.house(house, 0), streets[house]);
        }
        NumberDoor full = Edge.town(TWELVE);
        for (int house = 0; house < 12; house++) {
            Edge.due("place of " + house + " of twelve", full.house(house, 3), house);
        }
    }

    private static void asManyAsItHasRooms() {
        Edge.says(TERMS, "PEOPLE live in a HOUSE, as many as it has rooms at most, or are PAST THE BRIDGE.");
        NumberDoor x = Edge.town(TWELVE + Edge.times("number #;", 7));
        for (int person = 0; person < 6; person++) {
            Edge.due("move " + person, x.move(person, 11), true);
        }
        Edge.due("six live there", x.house(11, 2), 6);
        Edge.due("a seventh", x.move(6, 11), false);
        Edge.due("he is past the bridge", x.person(6, 0), NONE);
        Edge.due("one leaves", x.move(0, NONE), true);
        Edge.due("now there is room", x.move(6, 11), true);
        Edge.due("full again", x.move(0, 11), false);
    }

    private static void breachIs(NumberDoor x, int k, int law, int me, int other) {
        Edge.due("breach(" + k + ", 0)", x.breach(k, 0), law);
        Edge.due("breach(" + k + ", 1)", x.breach(k, 1), me);
        Edge.due("breach(" + k + ", 2)", x.breach(k, 2), other);
    }

    private static void brokenOfEach() {
        Edge.says(TERMS, "BROKEN is a LAW of each by one who lives in a HOUSE, if its TEST does not hold (other is 0)");
        NumberDoor x = Edge.town(OAK + "number 7;number 8 in a;number 9 in a;number 10;law each not all;law each other=0;");
        Edge.due("those past the bridge break none", x.has(7), 2);
        breachIs(x, 0, 0, 1, NONE);
        breachIs(x, 1, 0, 2, NONE);
        Edge.due("the test does not hold for him all the same", x.holds(0, 0, 0), 0);
        NumberDoor y = Edge.town(OAK + "number 7 in a;number 8 in b;law each other>0 or other<0;");
        Edge.due("other is 0", y.has(7), 2);
        Edge.due("all hold", Edge.town(OAK + "number 7 in a;law each all;").has(7), 0);
    }

    private static void brokenOfBeside() {
        Edge.says(TERMS, "of beside by two who live in two HOUSES that are NEIGHBOURS");
        NumberDoor x = Edge.town(OAK + "street t;house d of t rooms 2;lane a d;number 1 in a;number 2 in a;number 3 in b;number 4 in c;"
            + "number 5 in d;number 6;law beside not all;");
        // a is beside b and d, b beside a and c: 1-3 2-3 1-5 2-5 3-4, each both ways.
        Edge.due("has(7)", x.has(7), 10);
        breachIs(x, 0, 0, 0, 2);
        breachIs(x, 1, 0, 0, 4);
        breachIs(x, 2, 0, 1, 2);
        breachIs(x, 3, 0, 1, 4);
        breachIs(x, 4, 0, 2, 0);
        breachIs(x, 5, 0, 2, 1);
        breachIs(x, 6, 0, 2, 3);
        breachIs(x, 7, 0, 3, 2);
        breachIs(x, 8, 0, 4, 0);
        breachIs(x, 9, 0, 4, 1);
        Edge.due("nobody beside", Edge.town(OAK + "number 1 in a;number 2 in a;number 3 in c;number 4;law beside not all;").has(7), 0);
    }

    private static void brokenOfWithin() {
        Edge.says(TERMS, "of within by two who live in one, if its TEST does not hold with the one as me, the other one as "
            + "other (each of both is asked as me).");
        NumberDoor x = Edge.town(OAK + "number 1 in b;number 2 in b;number 3 in a;number 4 in b;number 5;number 6;law within me<other;");
        Edge.due("has(7)", x.has(7), 3);
        breachIs(x, 0, 0, 1, 0);
        breachIs(x, 1, 0, 3, 0);
        breachIs(x, 2, 0, 3, 1);
        NumberDoor both = Edge.town(OAK + "number 1 in a;number 2 in a;law within not all;");
        Edge.due("each of both as me", both.has(7), 2);
        Edge.due("nobody with himself", Edge.town(OAK + "number 1 in a;number 2 in b;law within not all;").has(7), 0);
        Edge.due("nor past the bridge", Edge.town("number 1;number 2;law within not all;").has(7), 0);
    }

    private static void breachesInOrder() {
        Edge.says(TERMS, "BREACHES are told by LAWS, then by me, then by other (PEOPLE by their numbers: as they came).");
        NumberDoor x = Edge.town(OAK + "number 9 in b;number 5 in a;number 7 in b;law within not all;law each me>5;law beside me<other;");
        breachIs(x, 0, 0, 0, 2);
        breachIs(x, 1, 0, 2, 0);
        breachIs(x, 2, 1, 1, NONE);
        breachIs(x, 3, 2, 0, 1);
        breachIs(x, 4, 2, 2, 1);
        Edge.due("has(7)", x.has(7), 5);
        NumberDoor full = Edge.town("street s;house a of s rooms 6;house b of s rooms 6;house c of s rooms 6;"
            + Edge.times("number # in a;", 6) + Edge.times("number 1# in b;", 6) + Edge.times("number 2# in c;", 4)
            + Edge.times("law within not all;", 4) + Edge.times("law beside not all;", 4));
        // Within: 6*5 + 6*5 + 4*3 for each of four; beside: 2 * (6*6 + 6*4) for each of four.
        Edge.due("as many as can be asked for", full.has(7), 4 * 72 + 4 * 120);
        breachIs(full, 0, 0, 0, 1);
        breachIs(full, 71, 0, 15, 14);
        breachIs(full, 72, 1, 0, 1);
        breachIs(full, 288, 4, 0, 6);
        breachIs(full, 767, 7, 15, 11);
        breachIs(full, 768, NONE, NONE, NONE);
    }

    private static void lawfulWithoutAny() {
        Edge.says(TERMS, "The town is LAWFUL without any.");
        Edge.due("no laws", Edge.town(OAK + "number 1 in a;").placed(NONE), 0);
        Edge.due("one that is not broken", Edge.town(OAK + "number 1 in a;law each me=1;").placed(NONE), 0);
        Edge.due("one BREACH", Edge.town(OAK + "number 1 in a;law each me=2;").placed(NONE), NONE);
        Edge.due("one BREACH of within, one way", Edge.town(OAK + "number 1 in a;number 2 in a;law within me<other;").placed(NONE), NONE);
        Edge.due("one BREACH of beside, one way", Edge.town(OAK + "number 1 in b;number 2 in c;law beside me>other;").placed(NONE), NONE);
        Edge.due("past the bridge alone", Edge.town(OAK + "number 1;law each not all;").placed(NONE), 0);
    }

    // ---- who may live where

    private static void mayInWhichHeIsNot() {
        Edge.says(TERMS, "one MAY live in a HOUSE in which he is not");
        NumberDoor x = Edge.town(OAK + "number 1 in b;number 2;");
        Edge.due("where he is", x.may(0, 1), 0);
        Edge.due("another", x.may(0, 0), 1);
        Edge.due("another", x.may(0, 2), 1);
        Edge.due("from past the bridge", x.may(1, 1), 1);
    }

    private static void mayIfThereIsRoom() {
        Edge.says(TERMS, "in which he is not, if there is room");
        NumberDoor x = Edge.town(OAK + "number 1 in a;number 2 in a;number 3 in c;number 4;number 5 in b;number 6 in b;");
        Edge.due("two of two", x.may(3, 0), 0);
        Edge.due("one of one", x.may(3, 2), 0);
        Edge.due("two of three", x.may(3, 1), 1);
        Edge.due("he who is there leaves no room for himself", x.may(0, 0), 0);
        x.move(3, 1);
        Edge.due("three of three", x.may(0, 1), 0);
        x.move(2, NONE);
        Edge.due("none of one", x.may(0, 2), 1);
    }

    private static void mayNoBreachWithHim() {
        Edge.says(TERMS, "and there would be no BREACH with him as me or other, were he there.");
        Edge.due("as me, each", Edge.town(OAK + "number 1;law each not all;").may(0, 0), 0);
        Edge.due("as me, within", Edge.town(OAK + "number 3;number 4 in a;law within me>3;").may(0, 0), 0);
        Edge.due("as other, within", Edge.town(OAK + "number 3;number 4 in a;law within me=3;").may(0, 0), 0);
        Edge.due("as me, beside", Edge.town(OAK + "number 3;number 4 in b;law beside me>3;").may(0, 0), 0);
        Edge.due("as other, beside", Edge.town(OAK + "number 3;number 4 in b;law beside me=3;").may(0, 0), 0);
        Edge.due("not beside", Edge.town(OAK + "number 3;number 4 in b;law within not all;").may(0, 0), 1);
        Edge.due("not within", Edge.town(OAK + "number 3;number 4 in a;law beside not all;").may(0, 0), 1);
        Edge.due("two apart", Edge.town(OAK + "number 3;number 4 in c;law beside not all;").may(0, 0), 1);
        // With him many is 2, rooms are those of the new house.
        Edge.due("as it would be then", Edge.town(OAK + "number 3 in c;number 4 in a;law each many=2 and rooms=2;").may(0, 0), 1);
        Edge.due("as it would be then", Edge.town(OAK + "number 3 in c;number 4 in a;law each many=1;").may(0, 0), 0);
        Edge.due("he no longer lives where he was", Edge.town(OAK + "number 3 in b;number 4 in c;law beside not all;").may(0, 0), 1);
        Edge.due("BREACHES of others don't count", Edge.town(OAK + "number 3;number 4 in b;law each me=3;").may(0, 0), 1);
        Edge.due("nor those that come with him", Edge.town(OAK + "number 3;number 4 in a;law each many=1 or me=3;").may(0, 0), 1);
        // The same with him behind the others.
        Edge.due("as me, within", Edge.town(OAK + "number 4 in a;number 3;law within me>3;").may(1, 0), 0);
        Edge.due("as other, within", Edge.town(OAK + "number 4 in a;number 3;law within me=3;").may(1, 0), 0);
        Edge.due("as me, beside", Edge.town(OAK + "number 4 in b;number 3;law beside me>3;").may(1, 0), 0);
        Edge.due("as other, beside", Edge.town(OAK + "number 4 in b;number 3;law beside me=3;").may(1, 0), 0);
        Edge.due("as other, beside, of three", Edge.town(OAK + "number 9 in c;number 4 in b;number 3;law beside me=3 or other=4 or other=9;")
            .may(2, 0), 0);
        Edge.due("below 0 by day", Edge.town(OAK + "number -3;").may(0, 0), 1);
        NumberDoor x = Edge.town(OAK + "number 3 in c;number 4 in a;law each many=1;");
        x.may(0, 0);
        Edge.due("asking moves nobody", x.person(0, 0), 2);
    }

    private static void placed3AtMost() {
        Edge.says(TERMS, "PLACED: for PEOPLE PAST THE BRIDGE (3 at most) a HOUSE each, or none");
        for (int waiting = 0; waiting <= 3; waiting++) {
            NumberDoor x = Edge.town(OAK + "number 50 in c;" + Edge.times("number #;", waiting));
            Edge.due(waiting + " wait", x.placed(NONE), waiting);
        }
        NumberDoor four = Edge.town(OAK + "number 50 in c;" + Edge.times("number #;", 4));
        for (int k = NONE; k < 6; k++) {
            Edge.due("four wait, " + k, four.placed(k), NONE);
        }
        Edge.due("one of them moves", four.move(1, 0), true);
        Edge.due("three wait", four.placed(NONE), 3);
    }

    private static void placedRoomsAreKept() {
        Edge.says(TERMS, "so that rooms are kept and the town is LAWFUL: as many as can be have one");
        NumberDoor x = Edge.town("street s;house a of s rooms 1;house b of s rooms 2;number 1 in b;number 2;number 3;number 4;");
        Edge.due("two rooms for three", x.placed(NONE), 2);
        Edge.due("2", x.placed(1), 0);
        Edge.due("3", x.placed(2), 1);
        Edge.due("4", x.placed(3), 20);
        NumberDoor none = Edge.town("street s;house a of s rooms 1;number 1 in a;number 2;");
        Edge.due("no room", none.placed(NONE), 0);
        Edge.due("no room", none.placed(1), 20);
        Edge.due("the last room", Edge.town("street s;house a of s rooms 2;number 1 in a;number 2;").placed(1), 0);
        Edge.due("no house may be lived in", Edge.town(OAK + "number 1;law each not all;").placed(NONE), 0);
        Edge.due("it can't be", Edge.town(OAK + "number 1 in a;number 2;law each not all;").placed(NONE), NONE);
        NumberDoor cure = Edge.town(OAK + "number 1 in b;number 2;number 3;number 4;law each many=3;");
        Edge.due("a BREACH that two more take away", cure.placed(NONE), 2);
        Edge.due("2 comes", cure.placed(1), 1);
        Edge.due("3 comes", cure.placed(2), 1);
        Edge.due("4 does not", cure.placed(3), 20);
        NumberDoor others = Edge.town(OAK + "number 1 in a;number 2;law each many=1 or me=2;");
        Edge.due("not so that others break a law", others.placed(1), 1);
    }

    private static void placedOfLikeOnes() {
        Edge.says(TERMS, "of like ones the first by PEOPLE, by HOUSES, none behind all.");
        NumberDoor x = Edge.town(OAK + "number 1;number 2;number 3;");
        for (int k = 0; k < 3; k++) {
            Edge.due("rooms 2, 3, 1: " + k, x.placed(k), k < 2 ? 0 : 1);
        }
        NumberDoor one = Edge.town("street s;house a of s rooms 1;number 7;number 8;number 9;");
        Edge.due("7 has it", one.placed(0), 0);
        Edge.due("8 has none", one.placed(1), 20);
        Edge.due("9 has none", one.placed(2), 20);
        NumberDoor late = Edge.town("street s;house a of s rooms 1;number 7;number 8;number 9;law each me=9;");
        Edge.due("9 alone can", late.placed(NONE), 1);
        Edge.due("7 has none", late.placed(0), 20);
        Edge.due("9 has it", late.placed(2), 0);
        NumberDoor more = Edge.town("street s;house a of s rooms 1;house b of s rooms 1;number 7;number 8;law each me=7 or house=0;");
        Edge.due("as many as can be goes ahead of the first", more.placed(NONE), 2);
        Edge.due("7 leaves the first to 8", more.placed(0), 1);
        Edge.due("8", more.placed(1), 0);
        NumberDoor last = Edge.town(TWELVE + "number 7;law each house=11;");
        Edge.due("the last house, not none", last.placed(0), 11);
    }

    /** PLACED by trying all ways on objects of their own, the first of the best ones kept: how many, then a house for each. */
    private static int[] placedByHand(String text, int first, int many) {
        int houses = Edge.town(text).has(1);
        int ways = (int) Math.pow(houses + 1, many);
        int[] best = {NONE, NONE, NONE, NONE};
        for (int way = 0; way < ways; way++) {
            NumberDoor x = Edge.town(text);
            int[] told = new int[4];
            boolean room = true;
            int rest = way;
            for (int i = many - 1; i >= 0; i--) {
                int house = rest % (houses + 1);
                rest /= houses + 1;
                told[i + 1] = house == houses ? 20 : house;
                if (house < houses) {
                    told[0]++;
                    room = room && x.move(first + i, house);
                }
            }
            if (room && x.has(7) == 0 && told[0] > best[0]) {
                best = told;
            }
        }
        return best;
    }

    private static void placedOfAllWays() {
        Edge.says(TERMS, "and the town is LAWFUL: as many as can be have one; of like ones the first by PEOPLE, by HOUSES, none behind all.");
        String town = "street s;house a of s rooms 3;house b of s rooms 2;house c of s rooms 4;house d of s rooms 1;number 50 in a;number 51 in c;";
        String[] laws = {"law each many=2;", "law each many=house+1;", "law each many=3-house;", "law each many=4 or house=0;",
            "law within gcd(me,other)=1;law beside many<3;", "law beside me+other>53 or me+other<52;", "law each many*2>rooms;",
            "law each many=1 or house=2;law beside square me;", "law each house*many<5 and many+house>1;", "law each not all;",
            "law each me>49 or house>me;", "law within me>49 or other>49;law each many<3;", "law beside not all;", "law within not all;",
            "law each many%2=1;", "law each many%2=1 or house=1;law beside me*other>2;", "law each many=2 or house>0 and many=1;"};
        for (String law : laws) {
            for (int many = 1; many <= 3; many++) {
                String text = town + Edge.times("number #;", many) + law;
                int[] want = placedByHand(text, 2, many);
                NumberDoor x = Edge.town(text);
                Edge.due("placed(NONE) of " + text, x.placed(NONE), want[0]);
                for (int i = 0; i < many; i++) {
                    Edge.due("placed(" + (2 + i) + ") of " + text, x.placed(2 + i), want[0] == NONE ? NONE : want[1 + i]);
                }
            }
        }
    }

    private static void placedForThoseWhoLiveThere() {
        Edge.says(TERMS, "or none, so that rooms are kept and the town is LAWFUL");
        for (int house = 0; house < 12; house++) {
            String text = TWELVE + "number 2 in " + (char) ('a' + house) + ";number 4;number 6;number 8;";
            Edge.due("he in house " + house + " breaks a law", Edge.town(text + "law each not me=2;").placed(NONE), NONE);
            NumberDoor x = Edge.town(text + "law each many=2;");
            Edge.due("one more in house " + house + ", two elsewhere", x.placed(NONE), 3);
            int elsewhere = house == 0 ? 1 : 0;
            Edge.due("4", x.placed(1), Math.min(house, elsewhere));
            NumberDoor both = Edge.town(text + "law each house=" + house + " and many=4;");
            Edge.due("all three in house " + house, both.placed(3), house);
        }
        String three = "street s;house a of s rooms 4;house b of s rooms 4;house c of s rooms 4;number 50 in a;number 51 in b;number 52 in c;"
            + "number 1;number 2;number 3;law each house=0 and many=#a or house=1 and many=#b or house=2 and many=#c;";
        for (int all = 0; all < 64; all++) {
            int[] wanted = {all / 16, all / 4 % 4, all % 4};
            int many = wanted[0] + wanted[1] + wanted[2];
            NumberDoor x = Edge.town(three.replace("#a", "" + (wanted[0] + 1)).replace("#b", "" + (wanted[1] + 1)).replace("#c", "" + (wanted[2] + 1)));
            String told = wanted[0] + ", " + wanted[1] + ", " + wanted[2] + " are to come: ";
            Edge.due(told + "how many", x.placed(NONE), many > 3 ? NONE : many);
            for (int k = 0; k < 3; k++) {
                int house = k < wanted[0] ? 0 : k < wanted[0] + wanted[1] ? 1 : k < many ? 2 : 20;
                Edge.due(told + "placed(" + (3 + k) + ")", x.placed(3 + k), many > 3 ? NONE : house);
            }
        }
    }

    // ---- acts

    private static void dayAtFirst() {
        Edge.says(TERMS, "It is day at first.");
        Edge.due("of a new object", new NumberDoor().has(9), 0);
        Edge.due("of a town", Edge.town(OAK).has(9), 0);
        Edge.due("it is day already", Edge.town(OAK).night(false), false);
        Edge.due("it becomes night", Edge.town(OAK).night(true), true);
    }

    private static void actsMoves() {
        Edge.says(TERMS, "ACTS: one MOVES (to a HOUSE with room, or past the bridge; one below 0 by night alone)");
        NumberDoor x = Edge.town(OAK + "number -1 in a;number 1 in b;number -999999999;");
        Edge.due("-1 by day", x.move(0, 2), false);
        Edge.due("-1 past the bridge by day", x.move(0, NONE), false);
        Edge.due("1 by day", x.move(1, 2), true);
        x.night(true);
        Edge.due("-1 by night, no room", x.move(0, 2), false);
        Edge.due("-1 past the bridge by night", x.move(0, NONE), true);
        Edge.due("1 by night", x.move(1, 0), true);
        Edge.due("-1 by night, room now", x.move(0, 2), true);
        Edge.due("the least by night", x.move(2, 0), true);
        Edge.due("ACTS", x.has(10), 6);
    }

    private static void actsHoused() {
        Edge.says(TERMS, "those PAST THE BRIDGE are HOUSED: by PEOPLE's numbers each (those below 0 by night alone) moves to the "
            + "first HOUSE in which he MAY live then");
        NumberDoor x = Edge.town("street s;house a of s rooms 1;house b of s rooms 2;house c of s rooms 1;number -9;number 4;number 6;"
            + "number 3;number 5;number 50 in c;law within gcd(me,other)=1;");
        Edge.due("by day", x.housed(), 3);
        int[] homes = {NONE, 0, 1, NONE, 1, 2};
        for (int person = 0; person < 6; person++) {
            Edge.due("by day " + person, x.person(person, 0), homes[person]);
        }
        Edge.due("nobody can", x.housed(), 0);
        x.undo();
        x.undo();
        Edge.due("undone", x.has(4), 5);
        x.night(true);
        Edge.due("by night", x.housed(), 3);
        int[] nights = {0, 1, NONE, 1, NONE, 2};
        for (int person = 0; person < 6; person++) {
            Edge.due("by night " + person, x.person(person, 0), nights[person]);
        }
    }

    private static void actsTheLast20() {
        Edge.says(TERMS, "The last 20 can be undone.");
        NumberDoor x = Edge.town(OAK + "number 1;");
        for (int i = 1; i <= 20; i++) {
            x.night(i % 2 == 1);
            Edge.due("ACTS", x.has(10), i);
        }
        x.move(0, 0);
        x.move(0, 1);
        Edge.due("20 and no more", x.has(10), 20);
        for (int i = 19; i >= 0; i--) {
            Edge.due("undo", x.undo(), true);
            Edge.due("left", x.has(10), i);
        }
        Edge.due("a 21st", x.undo(), false);
        Edge.due("the first two stay: night and day", x.has(9), 0);
        Edge.due("the moves are undone", x.person(0, 0), NONE);
        NumberDoor odd = Edge.town(OAK);
        for (int i = 1; i <= 21; i++) {
            odd.night(i % 2 == 1);
        }
        for (int i = 0; i < 20; i++) {
            odd.undo();
        }
        Edge.due("the first of 21 stays", odd.has(9), 1);
    }

    // ---- years

    private static int seedWhere(IntPredicate fits) {
        for (int seed = 0; seed < 5000000; seed++) {
            if (fits.test(seed)) {
                return seed;
            }
        }
        throw new IllegalStateException("no seed fits");
    }

    private static NumberDoor aYear(String text, int seed, int came) {
        NumberDoor x = Edge.town(text);
        x.seed(seed);
        Edge.due("who came in a year of " + text + " from seed " + seed, x.years(1), came);
        return x;
    }

    private static void yearFire() {
        Edge.says(TERMS, "A YEAR: a DRAW of the HOUSES, then a DRAW of 100: below fire all who live in that one are PAST THE BRIDGE.");
        for (int chance : new int[] {0, 1, 29, 98, 99}) {
            int seed = seedWhere(s -> Edge.draw(s, 2, 100) == chance && Edge.draw(s, 4, 1000) > 100);
            String text = "street s;house a of s rooms 6;number 1 in a;number 2 in a;number 3 in a;number 4 in a;number 5 in a;number 6 in a;";
            Edge.due("draw " + chance + ", fire as much", aYear(text + "fire " + chance + ";", seed, 1).has(4), 1);
            Edge.due("draw " + chance + ", fire one more", aYear(text + "fire " + (chance + 1) + ";", seed, 1).has(4), 7);
        }
        for (int house = 0; house < 3; house++) {
            int drawn = house;
            int seed = seedWhere(s -> Edge.draw(s, 1, 3) == drawn && Edge.draw(s, 4, 1000) > 100);
            NumberDoor x = aYear("street s;" + Edge.times("house $ of s rooms 1;", 3) + "number 7 in a;number -8 in b;number 9 in c;fire 100;",
                seed, 1);
            for (int person = 0; person < 3; person++) {
                Edge.due("house " + house + " burns, " + person, x.person(person, 0), person == house ? NONE : person);
            }
        }
    }

    private static void yearChild() {
        Edge.says(TERMS, "Then a DRAW of the HOUSES: if two or more live in that one and it has a room left, their child is born there");
        Edge.due("nobody", aYear(ONE_HOUSE + "number 3;number 10;", 1, 1).has(3), 3);
        Edge.due("one", aYear(ONE_HOUSE + "number 3 in a;number 10;", 1, 1).has(3), 3);
        NumberDoor two = aYear(ONE_HOUSE + "number 3 in a;number 10 in a;", 1, 2);
        Edge.due("the child", two.number(2), 7);
        Edge.due("it lives there", two.person(2, 0), 0);
        NumberDoor three = aYear(ONE_HOUSE + "number 3 in a;number 10 in a;number 50 in a;", 1, 2);
        Edge.due("of three, the last room", three.person(3, 0), 0);
        Edge.due("the house is full", three.house(0, 2), 4);
        aYear(ONE_HOUSE + "number 3 in a;number 10 in a;number 50 in a;number 90 in a;", 1, 1);
        aYear("street s;house a of s rooms 2;number 3 in a;number 10 in a;", 1, 1);
        aYear("street s;house a of s rooms 6;" + Edge.times("number 5# in a;", 5), 1, 2);
        aYear("street s;house a of s rooms 6;" + Edge.times("number 5# in a;", 6), 1, 1);
        Edge.due("a house that has just burned", aYear(ONE_HOUSE + "number 3 in a;number 10 in a;fire 100;", 1, 1).has(4), 3);
        for (int house = 0; house < 3; house++) {
            int drawn = house;
            int seed = seedWhere(s -> Edge.draw(s, 3, 3) == drawn && Edge.draw(s, 4, 1000) > 500);
            NumberDoor x = aYear("street s;" + Edge.times("house $ of s rooms 3;", 3) + "number 1 in a;number 3 in a;number 10 in b;"
                + "number 40 in b;number 100 in c;number 500 in c;", seed, 2);
            Edge.due("the child", x.number(6), new int[] {2, 30, 400}[house]);
            Edge.due("its house", x.person(6, 0), house);
        }
    }

    private static void yearChildNumber() {
        Edge.says(TERMS, "the first one's number less the second one's (by PEOPLE's numbers), without sign; but not 0, none of more than "
            + "9 digits, and none that is there already.");
        Edge.due("less, below 0", aYear(ONE_HOUSE + "number 3 in a;number 10 in a;", 1, 2).number(2), 7);
        Edge.due("less, above 0", aYear(ONE_HOUSE + "number 10 in a;number 3 in a;", 1, 2).number(2), 7);
        Edge.due("of unlike signs", aYear(ONE_HOUSE + "number -10 in a;number 3 in a;", 1, 2).number(2), 13);
        Edge.due("both below 0", aYear(ONE_HOUSE + "number -10 in a;number -30 in a;", 1, 2).number(2), 20);
        Edge.due("the least", aYear(ONE_HOUSE + "number 8 in a;number 9 in a;", 1, 2).number(2), 1);
        Edge.due("9 digits", aYear(ONE_HOUSE + "number 999999998 in a;number -1 in a;", 1, 2).number(2), 999999999);
        aYear(ONE_HOUSE + "number 999999999 in a;number -1 in a;", 1, 1);
        aYear(ONE_HOUSE + "number 1 in a;number -999999999 in a;", 1, 1);
        aYear(ONE_HOUSE + "number 999999999 in a;number -999999999 in a;", 1, 1);
        aYear(ONE_HOUSE + "number 3 in a;number 10 in a;number 7;", 1, 1);
        aYear(ONE_HOUSE + "number 3 in a;number 6 in a;", 1, 1);
        aYear(ONE_HOUSE + "number 3 in a;number 10 in a;number -7;", 1, 2);
        NumberDoor x = Edge.town(ONE_HOUSE + "number 100;number 30 in a;number 10 in a;");
        x.move(0, 0);
        x.seed(1);
        x.years(1);
        Edge.due("who came first into town, not into the house", x.number(3), 70);
    }

    private static void yearStranger() {
        Edge.says(TERMS, "Then a STRANGER: a DRAW of 1000, and 1, who is PAST THE BRIDGE, if there is none such.");
        for (int drawn : new int[] {0, 1, 998, 999}) {
            int seed = seedWhere(s -> Edge.draw(s, 4, 1000) == drawn);
            NumberDoor x = aYear(ONE_HOUSE, seed, 1);
            Edge.due("the stranger", x.number(0), drawn + 1);
            Edge.due("past the bridge", x.person(0, 0), NONE);
            aYear(ONE_HOUSE + "number " + (drawn + 1) + ";", seed, 0);
            aYear(ONE_HOUSE + "number " + (drawn + 1) + " in a;", seed, 0);
            Edge.due("its opposite is another", aYear(ONE_HOUSE + "number -" + (drawn + 1) + ";", seed, 1).number(1), drawn + 1);
        }
        int seed = seedWhere(s -> Edge.draw(s, 4, 1000) == 6);
        NumberDoor child = aYear(ONE_HOUSE + "number 3 in a;number 10 in a;", seed, 1);
        Edge.due("the child of that year is one such", child.person(2, 0), 0);
    }

    private static void yearSixteen() {
        Edge.says(TERMS, "(Nobody comes when there are 16");
        String two = ONE_HOUSE + "number 30000 in a;number 10 in a;";
        Edge.due("14", aYear(two + Edge.times("number 5#000;", 12), 1, 2).has(3), 16);
        NumberDoor fifteen = aYear(two + Edge.times("number 5#000;", 13), 1, 1);
        Edge.due("15: the child comes first", fifteen.number(15), 29990);
        NumberDoor sixteen = aYear(two + Edge.times("number 5#000;", 14), 1, 0);
        Edge.due("16", sixteen.has(3), 16);
        Edge.due("the DRAWS are made all the same", sixteen.has(11), Edge.seedAfter(1, 4));
        Edge.due("YEAR all the same", sixteen.has(8), 1);
        NumberDoor burned = aYear(two + Edge.times("number 5#000;", 14) + "fire 100;", 1, 0);
        Edge.due("fire all the same", burned.has(4), 16);
    }

    private static void yearWithoutHouses() {
        Edge.says(TERMS, "without HOUSES there are none of the DRAWS but the last.)");
        NumberDoor x = aYear("street s;fire 100;", 1, 1);
        Edge.due("one DRAW", x.has(11), Edge.seedAfter(1, 1));
        Edge.due("the stranger", x.number(0), Edge.draw(1, 1, 1000) + 1);
        NumberDoor one = aYear(ONE_HOUSE, 1, 1);
        Edge.due("four DRAWS", one.has(11), Edge.seedAfter(1, 4));
        Edge.due("the stranger", one.number(0), Edge.draw(1, 4, 1000) + 1);
        NumberDoor years = new NumberDoor();
        years.years(50);
        Edge.due("fifty DRAWS", years.has(11), Edge.seedAfter(1, 50));
        NumberDoor housed = Edge.town(TWELVE);
        housed.years(50);
        Edge.due("two hundred DRAWS", housed.has(11), Edge.seedAfter(1, 200));
    }

    private static NumberDoor inYear(int year) {
        NumberDoor x = new NumberDoor();
        Edge.put(x, Edge.image(year, 0));
        Edge.due("on()", x.on(), true);
        return x;
    }

    private static void yearCounts() {
        Edge.says(TERMS, "YEAR is one more (9999 at most; 0 at first).");
        NumberDoor x = new NumberDoor();
        Edge.due("at first", x.has(8), 0);
        x.years(1);
        Edge.due("one more", x.has(8), 1);
        x.years(50);
        Edge.due("fifty more", x.has(8), 51);
        NumberDoor late = inYear(9998);
        Edge.due("to 9999", late.years(1), 1);
        Edge.due("YEAR", late.has(8), 9999);
        Edge.due("beyond", late.years(1), NONE);
        Edge.due("YEAR", late.has(8), 9999);
    }

    private static void drawWrapsAround() {
        Edge.says(TERMS, "A DRAW of m: x (the seed) becomes (1103515245 x + 12345) mod 2 to the 31; floor(x / 64) mod m.");
        int[] seeds = {0, 1, 2, 3, 63, 64, 65535, 65536, 1000000000, 1073741823, 1073741824, 2147483646, 2147483647};
        long[] next = {12345, 1103527590, 59559187, 1163074432};
        for (int i = 0; i < seeds.length; i++) {
            NumberDoor x = new NumberDoor();
            x.seed(seeds[i]);
            x.years(1);
            long due = (1103515245L * seeds[i] + 12345) % (1L << 31);
            Edge.due("the seed behind " + seeds[i], x.has(11), due);
            Edge.due("the stranger behind " + seeds[i], x.number(0), due / 64 % 1000 + 1);
            if (i < next.length) {
                Edge.due("the seed behind " + seeds[i], x.has(11), next[i]);
            }
        }
    }

    private static void drawOfHouses() {
        Edge.says(TERMS, "below fire all who live in that one");
        for (int many = 1; many <= 12; many++) {
            for (int last = 0; last < 2; last++) {
                int burning = last * (many - 1);
                int houses = many;
                int seed = seedWhere(s -> Edge.draw(s, 1, houses) == burning && Edge.draw(s, 4, 1000) > 100);
                NumberDoor x = aYear("street s;" + Edge.times("house $ of s rooms 1;", many) + "number 5 in "
                    + (char) ('a' + burning) + ";fire 100;", seed, 1);
                Edge.due("of " + many + " house " + burning, x.person(0, 0), NONE);
            }
        }
    }

    // ---- promises 6 to 12

    private static void p06Has() {
        Edge.says(6, "How many there are: 0 STREETS, 1 HOUSES, 2 LANES, 3 PEOPLE, 4 of these PAST THE BRIDGE, 5 LAWS, 6 DEBTS, "
            + "7 BREACHES, 8 YEAR, 9 whether it is night (1, 0), 10 ACTS that can be undone, 11 the seed.");
        NumberDoor x = Edge.busy();
        // 6 in a and -4 in b, beside each other: a BREACH both ways.
        int[] want = {1, 2, 0, 3, 1, 2, 1, 2, 0, 1, 3, 77};
        for (int what = 0; what < want.length; what++) {
            Edge.due("has(" + what + ")", x.has(what), want[what]);
        }
        x.night(false);
        Edge.due("by day", x.has(9), 0);
        x.move(0, NONE);
        Edge.due("PAST THE BRIDGE", x.has(4), 2);
        Edge.due("BREACHES", x.has(7), 0);
        x.years(1);
        Edge.due("YEAR", x.has(8), 1);
        NumberDoor sixteen = Edge.town(Edge.times("number #;", 16));
        Edge.due("all past the bridge", sixteen.has(4), 16);
        Edge.due("none past the bridge", Edge.town(OAK + "number 1 in a;number 2 in c;").has(4), 0);
    }

    private static void p06NoneForOthers() {
        Edge.says(6, "11 the seed. NONE for others.");
        NumberDoor x = Edge.busy();
        Edge.due("has(12)", x.has(12), NONE);
        Edge.due("has(-1)", x.has(-1), NONE);
        for (int what : Edge.WILD) {
            Edge.due("has(" + what + ")", x.has(what), NONE);
        }
    }

    private static void p07Letter() {
        Edge.says(7, "Letter k (0 .. 5) of the NAME of a STREET (kind 0), a HOUSE (1): 1 .. 26; 0 behind it; NONE when there is none such.");
        NumberDoor x = Edge.town("street a;street zyxwvu;house zz of a rooms 1;house abcde of a rooms 1;");
        int[][] want = {{1, 0, 0, 0, 0, 0}, {26, 25, 24, 23, 22, 21}, {26, 26, 0, 0, 0, 0}, {1, 2, 3, 4, 5, 0}};
        for (int i = 0; i < 4; i++) {
            for (int k = 0; k < 6; k++) {
                Edge.due("letter(" + i / 2 + ", " + i % 2 + ", " + k + ")", x.letter(i / 2, i % 2, k), want[i][k]);
            }
            Edge.due("letter 6", x.letter(i / 2, i % 2, 6), NONE);
            Edge.due("letter -1", x.letter(i / 2, i % 2, -1), NONE);
        }
        for (int kind = 0; kind < 2; kind++) {
            Edge.due("letter(" + kind + ", 2, 0)", x.letter(kind, 2, 0), NONE);
            Edge.due("letter(" + kind + ", -1, 0)", x.letter(kind, -1, 0), NONE);
            for (int which : Edge.WILD) {
                Edge.due("letter(" + kind + ", " + which + ", 0)", x.letter(kind, which, 0), NONE);
                Edge.due("letter(" + kind + ", 0, " + which + ")", x.letter(kind, 0, which), NONE);
                Edge.due("letter(" + which + ", 0, 0)", x.letter(which, 0, 0), NONE);
            }
        }
        Edge.due("kind 2", x.letter(2, 0, 0), NONE);
        Edge.due("kind -1", x.letter(-1, 0, 0), NONE);
        NumberDoor full = Edge.town(Edge.times("street s$;", 4) + Edge.times("house h$ of sa rooms 1;", 12));
        Edge.due("the last street", full.letter(0, 3, 1), 4);
        Edge.due("one more", full.letter(0, 4, 0), NONE);
        Edge.due("the last house", full.letter(1, 11, 1), 12);
        Edge.due("one more", full.letter(1, 12, 0), NONE);
    }

    private static void p08House() {
        Edge.says(8, "Of a HOUSE: 0 its STREET, 1 rooms, 2 how many live there, 3 its place on its STREET (from 0 on), 4 its NEIGHBOURS as "
            + "bits, 10 and k: the k-th one who lives there (PEOPLE's numbers).");
        NumberDoor x = Edge.town(Edge.times("street s$;", 4) + Edge.times("house $ of sa rooms 1;", 11) + "house l of sd rooms 6;"
            + Edge.times("number 2#;number 1# in l;", 6));
        int[] want = {3, 6, 6, 0, 0};
        int[] first = {0, 1, 0, 0, 2};
        for (int what = 0; what < 5; what++) {
            Edge.due("house(11, " + what + ")", x.house(11, what), want[what]);
            Edge.due("house(0, " + what + ")", x.house(0, what), first[what]);
        }
        for (int k = 0; k < 6; k++) {
            Edge.due("house(11, 10 and " + k + ")", x.house(11, 10 + k), 2 * k + 1);
        }
        Edge.due("a seventh", x.house(11, 16), NONE);
        Edge.due("of an empty house", x.house(0, 10), NONE);
        x.move(11, 0);
        x.move(0, 11);
        Edge.due("by PEOPLE's numbers, not as they came in", x.house(11, 10), 0);
        Edge.due("the last of them", x.house(11, 15), 9);
        Edge.due("house(10, 3)", x.house(10, 3), 10);
        Edge.due("house(10, 4)", x.house(10, 4), 1 << 9);
    }

    private static void p08NoneSuch() {
        Edge.says(8, "NONE when there is none such, or for others.");
        NumberDoor x = Edge.town(OAK + "number 1 in a;number 2 in a;");
        for (int what = 5; what < 10; what++) {
            Edge.due("house(0, " + what + ")", x.house(0, what), NONE);
        }
        Edge.due("house(0, 12)", x.house(0, 12), NONE);
        Edge.due("house(0, 42), 32 behind the first", x.house(0, 42), NONE);
        Edge.due("house(0, -1)", x.house(0, -1), NONE);
        Edge.due("house(3, 0)", x.house(3, 0), NONE);
        Edge.due("house(-1, 0)", x.house(-1, 0), NONE);
        for (int wild : Edge.WILD) {
            Edge.due("house(0, " + wild + ")", x.house(0, wild), NONE);
            Edge.due("house(" + wild + ", 0)", x.house(wild, 0), NONE);
            Edge.due("house(" + wild + ", 10)", x.house(wild, 10), NONE);
        }
    }

    private static void p09Number() {
        Edge.says(9, "The number of one of the PEOPLE; NOBODY when there is none such.");
        NumberDoor x = Edge.town("number -1;number 999999999;number -999999999;");
        Edge.due("number(0), which is -1 and not NONE", x.number(0), -1);
        Edge.due("number(1)", x.number(1), 999999999);
        Edge.due("number(2)", x.number(2), -999999999);
        Edge.due("number(3)", x.number(3), NOBODY);
        Edge.due("number(-1)", x.number(-1), NOBODY);
        for (int person : Edge.WILD) {
            Edge.due("number(" + person + ")", x.number(person), NOBODY);
        }
        NumberDoor full = Edge.town(Edge.times("number #;", 16));
        Edge.due("number(15)", full.number(15), 16);
        Edge.due("number(16)", full.number(16), NOBODY);
        x.years(1);
        x.undo();
        Edge.due("one who came and is gone", x.number(3), NOBODY);
    }

    private static void p10Person() {
        Edge.says(10, "Of one of the PEOPLE: 0 the HOUSE (NONE: PAST THE BRIDGE), 1 in how many BREACHES as me or other, 2 how many of the "
            + "PEOPLE have a QUARREL with him (told above), 3 whether prime (signs aside), 4 whether PERFECT.");
        NumberDoor x = Edge.town(OAK + "number 6 in a;number -28 in b;number 7;number -7 in c;number 12 in a;number 1;number -1;"
            + "number 2;number -2;number 4;number -33550336;number 8128;number 999999937;number 496;number 8;number -9;"
            + "law each me>6;law within me>other;");
        int[] primes = {0, 0, 1, 1, 0, 0, 0, 1, 1, 0, 0, 0, 1, 0, 0, 0};
        int[] perfect = {1, 1, 0, 0, 0, 0, 0, 0, 0, 0, 1, 1, 0, 1, 0, 0};
        int[] homes = {0, 1, NONE, 2, 0};
        for (int person = 0; person < 16; person++) {
            Edge.due("home of " + person, x.person(person, 0), person < 5 ? homes[person] : NONE);
            Edge.due("prime " + x.number(person), x.person(person, 3), primes[person]);
            Edge.due("PERFECT " + x.number(person), x.person(person, 4), perfect[person]);
        }
        // Each: 6, -28 and -7 break it; within: 6 with 12 does as me.
        int[] breaches = {2, 1, 0, 1, 1};
        // 6 quarrels with 12 and -28, -28 with 6, 12 and -7.
        int[] quarrels = {2, 3, 0, 1, 2};
        for (int person = 0; person < 5; person++) {
            Edge.due("BREACHES of " + person, x.person(person, 1), breaches[person]);
            Edge.due("QUARRELS of " + person, x.person(person, 2), quarrels[person]);
        }
        NumberDoor both = Edge.town(OAK + "number 3 in a;number 5 in a;law within not all;law each not all;");
        Edge.due("as me, as other, alone", both.person(0, 1), 3);
        NumberDoor full = Edge.town("street s;house a of s rooms 6;house b of s rooms 6;house c of s rooms 4;"
            + Edge.times("number 2#0 in a;", 6) + Edge.times("number 4#0 in b;", 6) + Edge.times("number 6#0 in c;", 4));
        Edge.due("QUARRELS with all the others", full.person(6, 2), 15);
        Edge.due("with those within and beside", full.person(0, 2), 11);
    }

    private static void p10NoneSuch() {
        Edge.says(10, "NONE when there is none such, or for others.");
        NumberDoor x = Edge.town(OAK + "number 6 in a;number 7;");
        Edge.due("person(0, 5)", x.person(0, 5), NONE);
        Edge.due("person(0, -1)", x.person(0, -1), NONE);
        for (int what = 0; what < 5; what++) {
            Edge.due("person(2, " + what + ")", x.person(2, what), NONE);
            Edge.due("person(-1, " + what + ")", x.person(-1, what), NONE);
            Edge.due("person(16, " + what + ")", x.person(16, what), NONE);
            for (int wild : Edge.WILD) {
                Edge.due("person(" + wild + ", " + what + ")", x.person(wild, what), NONE);
            }
        }
        for (int wild : Edge.WILD) {
            Edge.due("person(0, " + wild + ")", x.person(0, wild), NONE);
        }
    }

    private static void p11Breach() {
        Edge.says(11, "Of the k-th BREACH: 0 the LAW, 1 me, 2 other (NONE of each).");
        NumberDoor x = Edge.town(OAK + "number 3 in a;number 5 in b;number 4;law within all;law beside me>other;law each me=5;");
        Edge.due("has(7)", x.has(7), 2);
        breachIs(x, 0, 1, 0, 1);
        breachIs(x, 1, 2, 0, NONE);
        Edge.due("5 comes", x.move(1, 0), true);
        Edge.due("has(7)", x.has(7), 1);
        breachIs(x, 0, 2, 0, NONE);
    }

    private static void p11NoneSuch() {
        Edge.says(11, "NONE when there is none such, or for others.");
        NumberDoor x = Edge.town(OAK + "number 3 in a;number 5 in b;number 4;law within all;law beside me>other;law each me=5;");
        for (int what = 0; what < 3; what++) {
            Edge.due("breach(2, " + what + ")", x.breach(2, what), NONE);
            Edge.due("breach(-1, " + what + ")", x.breach(-1, what), NONE);
            for (int wild : Edge.WILD) {
                Edge.due("breach(" + wild + ", " + what + ")", x.breach(wild, what), NONE);
            }
        }
        Edge.due("breach(0, 3)", x.breach(0, 3), NONE);
        Edge.due("breach(0, -1)", x.breach(0, -1), NONE);
        for (int wild : Edge.WILD) {
            Edge.due("breach(0, " + wild + ")", x.breach(0, wild), NONE);
        }
        Edge.due("a town without laws", Edge.town(OAK + "number 3 in a;").breach(0, 0), NONE);
    }

    private static void p12May() {
        Edge.says(12, "Whether one MAY live in a HOUSE: 1, 0 (also where he is); NONE when there are none such.");
        NumberDoor x = Edge.town(OAK + "number 3 in a;number 5 in c;number 4;");
        Edge.due("where he is", x.may(0, 0), 0);
        Edge.due("where he is, all rooms full", x.may(1, 2), 0);
        Edge.due("where there is room", x.may(2, 0), 1);
        Edge.due("where there is none", x.may(2, 2), 0);
        Edge.due("may(3, 0)", x.may(3, 0), NONE);
        Edge.due("may(-1, 0)", x.may(-1, 0), NONE);
        Edge.due("may(0, 3)", x.may(0, 3), NONE);
        Edge.due("may(0, NONE)", x.may(0, NONE), NONE);
        Edge.due("may(3, 3)", x.may(3, 3), NONE);
        for (int wild : Edge.WILD) {
            Edge.due("may(" + wild + ", 0)", x.may(wild, 0), NONE);
            Edge.due("may(0, " + wild + ")", x.may(0, wild), NONE);
        }
        NumberDoor last = Edge.town(TWELVE + Edge.times("number #;", 16));
        Edge.due("the last ones", last.may(15, 11), 1);
        Edge.due("may(16, 11)", last.may(16, 11), NONE);
        Edge.due("may(15, 12)", last.may(15, 12), NONE);
        Edge.due("asking is no ACT", last.has(10), 0);
    }

    // ---- promises 13, 14

    private static void p13Placed() {
        Edge.says(13, "PLACED: how many have a HOUSE (k NONE), the HOUSE of one of the PEOPLE PAST THE BRIDGE (k his number; 20: none).");
        NumberDoor x = Edge.town("street s;house a of s rooms 1;house b of s rooms 1;number 9 in a;number 1;number 2;number -3;");
        Edge.due("how many", x.placed(NONE), 1);
        Edge.due("1", x.placed(1), 1);
        Edge.due("2 has none", x.placed(2), 20);
        Edge.due("-3 has none", x.placed(3), 20);
        Edge.due("nobody moved", x.has(4), 3);
        Edge.due("no ACT", x.has(10), 0);
        NumberDoor all = Edge.town(TWELVE + "number 1;number 2;number 3;law each me+8=house;");
        Edge.due("three", all.placed(NONE), 3);
        for (int k = 0; k < 3; k++) {
            Edge.due("placed(" + k + ")", all.placed(k), 9 + k);
        }
        NumberDoor below = Edge.town(OAK + "number -1;");
        Edge.due("below 0 by day", below.placed(0), 0);
        NumberDoor sixteenth = Edge.town(TWELVE + Edge.times("number # in a;", 6) + Edge.times("number -# in b;", 6)
            + Edge.times("number 5# in l;", 3) + "number 7;");
        Edge.due("the sixteenth", sixteenth.placed(15), 2);
    }

    private static void p13None() {
        Edge.says(13, "NONE when there are more than 3, when it can't be, or for others.");
        NumberDoor x = Edge.town(OAK + "number 9 in a;number 1;");
        Edge.due("one who lives in a HOUSE", x.placed(0), NONE);
        Edge.due("placed(2)", x.placed(2), NONE);
        Edge.due("placed(20)", x.placed(20), NONE);
        for (int wild : Edge.WILD) {
            Edge.due("placed(" + wild + ")", x.placed(wild), NONE);
        }
        NumberDoor four = Edge.town(OAK + Edge.times("number #;", 4));
        NumberDoor cant = Edge.town(OAK + "number 9 in a;number 1;law each me=1;");
        for (int k = NONE; k < 5; k++) {
            Edge.due("more than 3, " + k, four.placed(k), NONE);
            Edge.due("it can't be, " + k, cant.placed(k), NONE);
        }
    }

    private static void p14Holds() {
        Edge.says(14, "Whether a LAW's TEST holds for two as me and other, as they live (the same one twice, too), 8: the TEST of wed.");
        NumberDoor x = Edge.town(OAK + "number 3 in a;number 5;" + Edge.times("law each me+#=other+3;", 8) + "wed me=other;");
        for (int law = 0; law < 8; law++) {
            Edge.due("the same one twice, law " + law, x.holds(law, 0, 0), law == 2 ? 1 : 0);
            Edge.due("3 and 5, law " + law, x.holds(law, 0, 1), law == 4 ? 1 : 0);
            Edge.due("5 and 3, law " + law, x.holds(law, 1, 0), law == 0 ? 1 : 0);
        }
        Edge.due("wed, the same one twice", x.holds(8, 1, 1), 1);
        Edge.due("wed", x.holds(8, 0, 1), 0);
        NumberDoor live = Edge.town(OAK + "number 3 in a;number 5;law beside house=0;law within rooms=0;");
        Edge.due("as they live", live.holds(0, 0, 1), 1);
        Edge.due("past the bridge", live.holds(1, 1, 0), 1);
        live.move(0, 1);
        live.move(1, 0);
        Edge.due("as they live now", live.holds(0, 0, 1), 0);
        Edge.due("as they live now", live.holds(0, 1, 0), 1);
        Edge.due("wed alone", Edge.town("number 3;wed all;").holds(8, 0, 0), 1);
    }

    private static void p14NoneSuch() {
        Edge.says(14, "NONE when there are none such.");
        NumberDoor x = Edge.town("number 3;number 5;law each all;law each all;wed all;");
        Edge.due("law 2 of two", x.holds(2, 0, 1), NONE);
        Edge.due("law 7", x.holds(7, 0, 1), NONE);
        Edge.due("law 9", x.holds(9, 0, 1), NONE);
        Edge.due("law -1", x.holds(-1, 0, 1), NONE);
        Edge.due("me 2", x.holds(0, 2, 0), NONE);
        Edge.due("other 2", x.holds(0, 0, 2), NONE);
        Edge.due("me -1", x.holds(0, -1, 0), NONE);
        Edge.due("other -1", x.holds(0, 0, -1), NONE);
        Edge.due("wed of none such", x.holds(8, 2, 2), NONE);
        for (int wild : Edge.WILD) {
            Edge.due("law " + wild, x.holds(wild, 0, 1), NONE);
            Edge.due("me " + wild, x.holds(0, wild, 1), NONE);
            Edge.due("other " + wild, x.holds(0, 0, wild), NONE);
        }
        Edge.due("without wed", Edge.town("number 3;" + Edge.times("law each all;", 8)).holds(8, 0, 0), NONE);
        Edge.due("without laws", Edge.town("number 3;wed all;").holds(0, 0, 0), NONE);
        NumberDoor gone = Edge.town("number 3;law each all;wed all;");
        Edge.put(gone, "number 3;");
        gone.town();
        Edge.due("another town without wed", gone.holds(8, 0, 0), NONE);
        Edge.due("another town without laws", gone.holds(0, 0, 0), NONE);
    }

    // ---- promises 15 to 20

    private static NumberDoor busyByDay() {
        NumberDoor x = Edge.busy();
        x.night(false);
        return x;
    }

    private static void p15Move() {
        Edge.says(15, "One MOVES to a HOUSE (NONE: past the bridge): true");
        NumberDoor x = Edge.town(TWELVE + Edge.times("number #;", 16) + "law each not all;");
        Edge.due("the last one to the last house, against the law", x.move(15, 11), true);
        Edge.due("he lives there", x.person(15, 0), 11);
        Edge.due("house(11, 2)", x.house(11, 2), 1);
        Edge.due("past the bridge", x.move(15, NONE), true);
        Edge.due("he is there", x.person(15, 0), NONE);
        Edge.due("house(11, 2)", x.house(11, 2), 0);
        Edge.due("house to house", x.move(0, 3) && x.move(0, 4), true);
        Edge.due("the old one is empty", x.house(3, 2), 0);
        Edge.due("ACTS", x.has(10), 4);
    }

    private static void p15Refused() {
        Edge.says(15, "false, refused (2), when there are none such, there is no room, he is there, or he is below 0 and it is day.");
        int[][] wrongOnes = {{-1, 0}, {3, 0}, {16, 0}, {0, 2}, {0, -2}, {0, 12}, {3, NONE}, {0, 1}, {2, 1}, {0, 0}, {1, 1}, {2, NONE}};
        for (int[] one : wrongOnes) {
            Edge.refused("move(" + one[0] + ", " + one[1] + ")", Edge::busy, x -> x.move(one[0], one[1]) ? 1 : 0, 0, 2, 7);
        }
        for (int wild : Edge.WILD) {
            Edge.refused("move(" + wild + ", 0)", Edge::busy, x -> x.move(wild, 0) ? 1 : 0, 0, 2, 7);
            Edge.refused("move(0, " + wild + ")", Edge::busy, x -> x.move(0, wild) ? 1 : 0, 0, 2, 7);
        }
        Edge.refused("-4 by day", BoundaryTownTest::busyByDay, x -> x.move(1, 0) ? 1 : 0, 0, 2, 7);
        Edge.refused("-4 past the bridge by day", BoundaryTownTest::busyByDay, x -> x.move(1, NONE) ? 1 : 0, 0, 2, 7);
        Edge.due("-4 by night", Edge.busy().move(1, 0), true);
        Edge.due("10 by day", busyByDay().move(2, 0), true);
        Edge.refused("move(0, 0) of a new object", NumberDoor::new, x -> x.move(0, 0) ? 1 : 0, 0, 2, 0);
    }

    private static void p16Night() {
        Edge.says(16, "It is night (is true), or day: true");
        NumberDoor x = new NumberDoor();
        Edge.due("night", x.night(true), true);
        Edge.due("has(9)", x.has(9), 1);
        Edge.due("day", x.night(false), true);
        Edge.due("has(9)", x.has(9), 0);
        Edge.due("ACTS", x.has(10), 2);
    }

    private static void p16Refused() {
        Edge.says(16, "false, refused (2), when it is so already.");
        Edge.refused("night(true)", Edge::busy, x -> x.night(true) ? 1 : 0, 0, 2, 7);
        Edge.refused("night(false)", BoundaryTownTest::busyByDay, x -> x.night(false) ? 1 : 0, 0, 2, 7);
        Edge.refused("night(false) of a new object", NumberDoor::new, x -> x.night(false) ? 1 : 0, 0, 2, 0);
    }

    private static void p17Housed() {
        Edge.says(17, "Those PAST THE BRIDGE are HOUSED: how many moved.");
        Edge.due("of a new object", new NumberDoor().housed(), 0);
        NumberDoor x = Edge.town(TWELVE + Edge.times("number #;", 16) + "law each house>0;law within not all;");
        Edge.due("sixteen, eleven houses", x.housed(), 11);
        Edge.due("the first", x.person(0, 0), 1);
        Edge.due("the eleventh", x.person(10, 0), 11);
        Edge.due("the twelfth", x.person(11, 0), NONE);
        Edge.due("one ACT", x.has(10), 1);
        Edge.due("nobody more", x.housed(), 0);
        Edge.due("an ACT all the same", x.has(10), 2);
        Edge.due("undone", x.undo() && x.undo(), true);
        Edge.due("all wait", x.has(4), 16);
        NumberDoor none = Edge.town("number 1;number 2;");
        Edge.due("without HOUSES", none.housed(), 0);
        NumberDoor below = Edge.town(OAK + "number -1;number -2;number 3;");
        Edge.due("below 0 by day", below.housed(), 1);
        below.night(true);
        Edge.due("below 0 by night", below.housed(), 2);
        Edge.due("-1", below.person(0, 0), 0);
        Edge.due("-2", below.person(1, 0), 1);
    }

    private static void p18Years() {
        Edge.says(18, "n YEARS (1 .. 50), one ACT: how many came (children, strangers)");
        NumberDoor x = new NumberDoor();
        Edge.due("1", x.years(1), 1);
        Edge.due("one ACT", x.has(10), 1);
        int before = x.has(3);
        Edge.due("50", x.years(50), 16 - before);
        Edge.due("one ACT more", x.has(10), 2);
        Edge.due("YEAR", x.has(8), 51);
        Edge.due("nobody comes, an ACT all the same", x.years(50), 0);
        Edge.due("ACTS", x.has(10), 3);
        NumberDoor both = aYear(ONE_HOUSE + "number 3 in a;number 5000 in a;", 1, 2);
        Edge.due("a child and a stranger", both.has(3), 4);
        NumberDoor once = Edge.town(ONE_HOUSE + "number 3 in a;number 5000 in a;");
        once.seed(9);
        NumberDoor often = Edge.town(ONE_HOUSE + "number 3 in a;number 5000 in a;");
        often.seed(9);
        int came = 0;
        for (int year = 0; year < 7; year++) {
            came += often.years(1);
        }
        Edge.due("7 at once are 7 one by one", once.years(7), came);
        for (int person = 0; person <= once.has(3); person++) {
            Edge.due("number(" + person + ")", once.number(person), often.number(person));
        }
        Edge.due("seed", once.has(11), often.has(11));
    }

    private static void p18Refused() {
        Edge.says(18, "NONE, refused (3), when n can't be, or beyond YEAR 9999.");
        for (int n : new int[] {0, -1, 51, 9999, 10000}) {
            Edge.refused("years(" + n + ")", Edge::busy, x -> x.years(n), NONE, 3, 7);
        }
        for (int n : Edge.WILD) {
            Edge.refused("years(" + n + ")", Edge::busy, x -> x.years(n), NONE, 3, 7);
            Edge.refused("years(" + n + ") in YEAR 9999", () -> inYear(9999), x -> x.years(n), NONE, 3, 0);
        }
        Edge.refused("years(50) in YEAR 9950", () -> inYear(9950), x -> x.years(50), NONE, 3, 0);
        Edge.refused("years(2) in YEAR 9998", () -> inYear(9998), x -> x.years(2), NONE, 3, 0);
        Edge.refused("years(1) in YEAR 9999", () -> inYear(9999), x -> x.years(1), NONE, 3, 0);
        NumberDoor last = inYear(9949);
        Edge.due("years(50) in YEAR 9949", last.years(50) >= 0, true);
        Edge.due("YEAR", last.has(8), 9999);
    }

    private static void p19Undo() {
        Edge.says(19, "The latest ACT is undone: all that ACTS change is as it was ahead of it (but the seed): true");
        String text = ONE_HOUSE + "house b of s rooms 1;number 3 in a;number 5000 in a;number -8;number 60;law within all;wed all;owes a b 7;fire 60;";
        NumberDoor x = Edge.town(text);
        String[] before = new String[5];
        before[0] = image(x);
        x.move(0, 1);
        before[1] = image(x);
        x.night(true);
        before[2] = image(x);
        x.housed();
        before[3] = image(x);
        x.years(9);
        int seed = x.has(11);
        for (int act = 3; act >= 0; act--) {
            Edge.due("undo", x.undo(), true);
            Edge.due("as it was ahead of act " + act, image(x).equals(before[act]), true);
            Edge.due("ACTS", x.has(10), act);
            Edge.due("the seed stays", x.has(11), seed);
        }
        Edge.due("no YEAR", x.has(8), 0);
        Edge.due("who came is gone", x.number(4), NOBODY);
        NumberDoor again = Edge.town(OAK + "number 1;");
        for (int i = 0; i < 20; i++) {
            again.night(i % 2 == 0);
        }
        for (int i = 0; i < 5; i++) {
            again.undo();
        }
        Edge.due("15 are left", again.has(10), 15);
        again.move(0, 0);
        again.move(0, 1);
        again.move(0, 2);
        Edge.due("18", again.has(10), 18);
        Edge.due("undo is no ACT", again.undo() && again.undo() && again.undo(), true);
        Edge.due("the moves are undone", again.person(0, 0), NONE);
        Edge.due("15 nights and days", again.has(9), 1);
        again.undo();
        Edge.due("14", again.has(9), 0);
        NumberDoor house = Edge.town(ONE_HOUSE + "number 3 in a;number 4;");
        house.years(1);
        house.years(1);
        house.undo();
        house.move(1, 0);
        house.undo();
        Edge.due("an ACT behind an undone one", house.has(10), 1);
        Edge.due("YEAR", house.has(8), 1);
        NumberDoor busy = Edge.busy();
        busy.undo();
        Edge.due("HIDDEN stays", busy.hidden(0), 2);
        Edge.due("the image stays", busy.octet(3), 3);
        Edge.due("the tape stays", busy.town(), 1);
    }

    private static boolean act(NumberDoor x, int which) {
        switch (which) {
            case 0: return x.move(0, NONE);
            case 1: return x.move(4, 1);
            case 2: return x.night(true);
            case 3: return x.housed() > 0;
            case 4: return x.years(1) > 0;
            case 5: return x.years(30) > 0;
            default:
                Edge.put(x, Edge.image(5, 0, 220, 2, 284, 3, 6, 0, 9, 0, 7, 1));
                return x.on();
        }
    }

    private static void p19AllThatActsChange() {
        Edge.says(19, "all that ACTS change is as it was ahead of it (but the seed)");
        String text = OAK + "number 6 in a;number 10 in a;number 15 in b;number -4;number 8;number 9;law within gcd(me,other)=1;law beside gcd(me,other)<5 and me<50;"
            + "law each many<3;wed many=rooms or house+1=0;fire 50;";
        for (int which = 0; which <= 6; which++) {
            NumberDoor asked = Edge.town(text);
            String before = Edge.allOfTown(asked);
            Edge.due("act " + which, act(asked, which), true);
            NumberDoor fresh = Edge.town(text);
            act(fresh, which);
            Edge.same("what was asked ahead of act " + which + " changes nothing behind it", Edge.allOfTown(asked), Edge.allOfTown(fresh));
            if (which < 6) {
                Edge.due("undo of act " + which, asked.undo(), true);
                Edge.same("behind undo of act " + which, Edge.allOfTown(asked), before);
            }
        }
    }

    private static String image(NumberDoor x) {
        StringBuilder told = new StringBuilder();
        int length = x.image();
        for (int k = 0; k < length; k++) {
            told.append(x.octet(k)).append(',');
        }
        return told.toString();
    }

    private static void p19Refused() {
        Edge.says(19, "false, refused (4), when none can be.");
        Edge.refused("undo() of a new object", NumberDoor::new, x -> x.undo() ? 1 : 0, 0, 4, 0);
        Edge.refused("undo() of a new town", () -> Edge.town(OAK + "number 1;"), x -> x.undo() ? 1 : 0, 0, 4, 0);
        Edge.refused("a fourth undo()", () -> {
            NumberDoor x = Edge.busy();
            x.undo();
            x.undo();
            x.undo();
            return x;
        }, x -> x.undo() ? 1 : 0, 0, 4, 7);
        NumberDoor x = Edge.busy();
        x.move(0, 0);
        x.night(true);
        x.years(0);
        Edge.due("refused ones are no ACTS", x.has(10), 3);
    }

    private static void p20Seed() {
        Edge.says(20, "The seed: true");
        for (int seed : new int[] {0, 1, 2147483646, Integer.MAX_VALUE}) {
            NumberDoor x = Edge.busy();
            Edge.due("seed(" + seed + ")", x.seed(seed), true);
            Edge.due("has(11)", x.has(11), seed);
            Edge.due("no ACT", x.has(10), 3);
            Edge.due("the same again", x.seed(seed), true);
        }
    }

    private static void p20Refused() {
        Edge.says(20, "false, refused (5), when it is below 0.");
        for (int seed : new int[] {-1, -2, Integer.MIN_VALUE}) {
            Edge.refused("seed(" + seed + ")", Edge::busy, x -> x.seed(seed) ? 1 : 0, 0, 5, 7);
        }
        Edge.refused("seed(-1) of a new object", NumberDoor::new, x -> x.seed(-1) ? 1 : 0, 0, 5, 0);
    }
}
