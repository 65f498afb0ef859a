import java.util.ArrayList;
import java.util.HashSet;
import java.util.List;
import java.util.Random;
import java.util.Set;

/** Texts of towns by a random source with a given seed: mostly good ones, some with a fault somewhere. */
final class RandomTown {
    private static final String[] SPECIAL = {"220", "284", "6", "28", "496", "8128", "1184", "1210", "2620", "2924",
        "999999999", "999999937", "1", "2", "4", "9", "12", "36", "100", "962080", "5000", "31622", "999950884"};
    private static final String[] JUNK = {"street", "house", "of", "rooms", "lane", "number", "in", "law", "each",
        "beside", "within", "wed", "owes", "fire", "me", "other", "many", "square", "prime", "or", "and", "not", "all",
        "min", "max", "gcd", ";", "-", "<", ">", "=", "+", "*", "/", "%", "(", ")", "[", "]", ",", "abcdefg",
        "1234567890", "a", "zz", "0", "7", "A", "!", "\u0000", "\u00ff", "{", "`", ":", "\t", "101", "10000"};

    private final Random random;
    private final List<String> streets = new ArrayList<>();
    private final List<String> houses = new ArrayList<>();
    private final List<String> streetOf = new ArrayList<>();
    private final List<Integer> roomsLeft = new ArrayList<>();
    private final Set<String> used = new HashSet<>(List.of(JUNK));
    private final Set<String> joined = new HashSet<>();
    private final StringBuilder text = new StringBuilder();
    private final int mostDepth;
    private final int nesting;
    private int depth;

    RandomTown(Random random) {
        this.random = random;
        boolean deep = upTo(5) == 0;
        mostDepth = deep ? 8 : 7;
        nesting = deep ? 2 : 5;
    }

    private int upTo(int n) {
        return random.nextInt(n);
    }

    private String blank() {
        return new String[] {" ", "  ", "\n", " \n ", " ", " "}[upTo(6)];
    }

    private String gap() {
        return upTo(6) == 0 ? blank() : "";
    }

    /** A new name; once in a while one that was there already. */
    private String name() {
        if (upTo(80) == 0 && !streets.isEmpty()) {
            return upTo(2) == 0 || houses.isEmpty() ? streets.get(upTo(streets.size())) : houses.get(upTo(houses.size()));
        }
        String name = oneName();
        for (int i = 0; i < 50 && used.contains(name) && upTo(60) > 0; i++) {
            name = oneName();
        }
        used.add(name);
        return name;
    }

    private String oneName() {
        StringBuilder name = new StringBuilder();
        int length = 1 + upTo(upTo(4) == 0 ? 6 : 3);
        for (int i = 0; i < length; i++) {
            name.append((char) ('a' + upTo(26)));
        }
        return name.toString();
    }

    private String number() {
        String number = oneNumber();
        for (int i = 0; i < 50 && used.contains(number) && upTo(60) > 0; i++) {
            number = oneNumber();
        }
        used.add(number);
        return number;
    }

    private String oneNumber() {
        return switch (upTo(4)) {
            case 0 -> SPECIAL[upTo(SPECIAL.length)];
            case 1 -> Integer.toString(1 + upTo(30));
            case 2 -> Integer.toString(1 + upTo(1000));
            default -> Integer.toString(1 + upTo(upTo(5) == 0 ? 999999999 : 60));
        };
    }

    private String constant() {
        return switch (upTo(6)) {
            case 0 -> "0";
            case 1 -> "999999999";
            case 2 -> Integer.toString(upTo(1000000000));
            case 3 -> "00" + upTo(9);
            default -> Integer.toString(upTo(12));
        };
    }

    private String part() {
        if (depth < mostDepth && upTo(nesting + 1) == 0 && text.length() < 1200) {
            depth++;
            String inner = switch (upTo(4)) {
                case 0 -> "(" + gap() + sum() + gap() + ")";
                case 1 -> "min" + gap() + "(" + sum() + "," + gap() + sum() + ")";
                case 2 -> "max(" + sum() + gap() + "," + sum() + ")";
                default -> "gcd (" + sum() + "," + sum() + gap() + ")";
            };
            depth--;
            return inner;
        }
        return switch (upTo(10)) {
            case 0, 1, 2 -> "me";
            case 3, 4 -> "other";
            case 5 -> new String[] {"rooms", "house", "street"}[upTo(3)];
            case 6 -> "many";
            default -> constant();
        };
    }

    private String product() {
        StringBuilder all = new StringBuilder(part());
        while (upTo(5) == 0) {
            all.append(gap()).append("*/%".charAt(upTo(3))).append(gap()).append(part());
        }
        return all.toString();
    }

    private String sum() {
        StringBuilder all = new StringBuilder(product());
        while (upTo(4) == 0) {
            all.append(gap()).append("+-".charAt(upTo(2))).append(gap()).append(product());
        }
        return all.toString();
    }

    private String fact() {
        if (depth < mostDepth && upTo(nesting) == 0 && text.length() < 1200) {
            depth++;
            String inner = upTo(2) == 0 ? "not" + blank() + fact() : "[" + gap() + test() + "]";
            depth--;
            return inner;
        }
        return switch (upTo(9)) {
            case 0 -> "all";
            case 1 -> "square" + blank() + sum();
            case 2 -> "prime" + blank() + sum();
            case 3 -> "me" + gap() + "=" + gap() + "me";
            default -> sum() + gap() + "<>=".charAt(upTo(3)) + gap() + sum();
        };
    }

    private String both() {
        StringBuilder all = new StringBuilder(fact());
        while (upTo(5) == 0) {
            all.append(blank()).append("and").append(blank()).append(fact());
        }
        return all.toString();
    }

    private String test() {
        StringBuilder all = new StringBuilder(both());
        while (upTo(3) == 0) {
            all.append(blank()).append("or").append(blank()).append(both());
        }
        return all.toString();
    }

    /** A test that mostly holds, so that lawful towns are met too. */
    private String mildTest() {
        return switch (upTo(7)) {
            case 0 -> "gcd(me,other)<" + (2 + upTo(30));
            case 1 -> "many<" + (3 + upTo(4));
            case 2 -> "me>" + upTo(4) + " or me<0";
            case 3 -> "not me%" + (5 + upTo(9)) + "=" + upTo(5);
            case 4 -> "[not prime me+other] or square me or many>1";
            case 5 -> "me-other<" + (20 + upTo(500));
            default -> test();
        };
    }

    private String any(List<String> names) {
        return names.isEmpty() || upTo(90) == 0 ? name() : names.get(upTo(names.size()));
    }

    private boolean areJoined(int one, int other) {
        return joined.contains(Math.min(one, other) + " " + Math.max(one, other));
    }

    private void join(int one, int other) {
        joined.add(Math.min(one, other) + " " + Math.max(one, other));
    }

    /** Two houses, mostly unlike ones, for a lane mostly no neighbours; nothing when none are found. */
    private void pair(String word, boolean lane, String behind) {
        int many = houses.size();
        for (int i = 0; i < 20 && many > 1; i++) {
            int one = upTo(many);
            int other = upTo(many);
            if (upTo(90) == 0 || (one != other && !(lane && areJoined(one, other)))) {
                if (lane) {
                    join(one, other);
                }
                statement(word + blank() + houses.get(one) + blank() + houses.get(other) + behind);
                return;
            }
        }
    }

    private void statement(String told) {
        text.append(told).append(gap()).append(";").append(upTo(4) == 0 ? blank() : "");
    }

    private void street() {
        String name = name();
        streets.add(name);
        statement("street" + blank() + name);
    }

    private void house() {
        String name = name();
        String street = any(streets);
        int before = streetOf.lastIndexOf(street);
        if (before >= 0) {
            join(before, houses.size());
        }
        houses.add(name);
        streetOf.add(street);
        int rooms = upTo(90) == 0 ? upTo(9) : 1 + upTo(6);
        roomsLeft.add(rooms);
        statement("house" + blank() + name + blank() + "of" + blank() + street + blank() + "rooms" + blank() + rooms);
    }

    private void person() {
        String told = (upTo(4) == 0 ? "-" + gap() : "") + number();
        String home = "";
        int house = houses.isEmpty() ? -1 : upTo(houses.size());
        if (house >= 0 && upTo(4) > 0 && (roomsLeft.get(house) > 0 || upTo(60) == 0)) {
            roomsLeft.set(house, roomsLeft.get(house) - 1);
            home = blank() + "in" + blank() + (upTo(200) == 0 ? any(streets) : houses.get(house));
        }
        statement("number" + blank() + told + home);
    }

    private void one(int kind) {
        switch (kind) {
            case 0 -> street();
            case 1 -> house();
            case 2 -> pair("lane", true, "");
            case 3 -> person();
            case 4 -> statement("law" + blank() + new String[] {"each", "beside", "within"}[upTo(3)] + blank()
                + (upTo(2) == 0 ? mildTest() : test()));
            case 5 -> pair("owes", false, blank() + (upTo(3) == 0 ? 1 + upTo(9999) : 1 + upTo(5)));
            default -> statement("fire" + blank() + (upTo(40) == 0 ? 101 : upTo(101)));
        }
    }

    String good() {
        int many = 1 + upTo(3);
        for (int i = 0; i < many; i++) {
            street();
        }
        int stand = upTo(upTo(3) == 0 ? 13 : 6);
        for (int i = 0; i < stand; i++) {
            house();
        }
        int come = upTo(upTo(3) == 0 ? 17 : 9);
        for (int i = 0; i < come; i++) {
            person();
        }
        int rules = upTo(4) == 0 ? upTo(9) : upTo(3);
        for (int i = 0; i < rules && text.length() < 1200; i++) {
            one(4);
        }
        if (upTo(2) == 0) {
            statement("wed" + blank() + (upTo(2) == 0 ? "all" : upTo(2) == 0 ? mildTest() : test()));
        }
        int more = upTo(upTo(3) == 0 ? 30 : 12);
        for (int i = 0; i < more && text.length() < 1400; i++) {
            one(new int[] {2, 3, 5, 5, 5, 6}[upTo(6)]);
        }
        return text.toString();
    }

    /** A town whose COUPLES are not plain: many people, of whom some may wed. */
    String wedding() {
        int come = 10 + upTo(7);
        for (int i = 0; i < come; i++) {
            statement("number " + number());
        }
        int m = 2 + upTo(7);
        statement("wed " + new String[] {"(me*other+me+other)%" + m + "<" + (1 + upTo(m)), "gcd(me,other)>1",
            "prime me+other", "me*other%" + m + "=" + upTo(m), "square me*other+" + upTo(30),
            "me%" + m + "=" + upTo(m) + " or other%" + m + "=" + upTo(m)}[upTo(6)]);
        return text.toString();
    }

    /** A town in which one to three wait, and most laws hold. */
    String crowd() {
        street();
        street();
        int stand = 6 + upTo(7);
        for (int i = 0; i < stand; i++) {
            house();
        }
        int come = upTo(10);
        for (int i = 0; i < come; i++) {
            int house = upTo(stand);
            if (roomsLeft.get(house) > 0) {
                roomsLeft.set(house, roomsLeft.get(house) - 1);
                statement("number " + number() + " in " + houses.get(house));
            }
        }
        int wait = 1 + upTo(3);
        for (int i = 0; i < wait; i++) {
            statement("number " + number());
        }
        for (int i = 0; i < 3; i++) {
            pair("lane", true, "");
        }
        int rules = 1 + upTo(4);
        for (int i = 0; i < rules; i++) {
            statement("law " + new String[] {"beside gcd(me,other)<" + (2 + upTo(9)), "within gcd(me,other)<" + (2 + upTo(9)),
                "each many<" + (2 + upTo(3)) + " or house<" + upTo(stand), "each rooms>" + upTo(3),
                "each house%" + (2 + upTo(3)) + "<2", "beside not me+other=" + upTo(60), "within many>1 or all",
                "each many>1 or me%3<2 or house<" + upTo(stand), "each not many=2 or house>" + upTo(stand),
                "beside me>other or street=0", "within me*other<500", "each many=rooms or me%2=0"}[upTo(12)]);
        }
        return text.toString();
    }

    /** Many small debts among many houses. */
    String owing() {
        street();
        int stand = 5 + upTo(8);
        for (int i = 0; i < stand; i++) {
            house();
        }
        int most = 1 + upTo(6);
        for (int i = 0; i < 16; i++) {
            pair("owes", false, " " + (1 + upTo(most)));
        }
        return text.toString();
    }

    /** A text with something changed in it: a token put in, left out or doubled, or the end cut off. */
    String changed() {
        String was = good();
        int at = upTo(was.length() + 1);
        return switch (upTo(6)) {
            case 0 -> was.substring(0, at);
            case 1 -> was.substring(0, at) + JUNK[upTo(JUNK.length)] + was.substring(at);
            case 2 -> was.substring(0, at) + " " + JUNK[upTo(JUNK.length)] + " " + was.substring(at);
            case 3 -> was.substring(0, at) + was.substring(Math.min(was.length(), at + 1 + upTo(3)));
            case 4 -> was.substring(0, at) + "[not not [not (min(1+(".substring(upTo(9)) + was.substring(at);
            default -> many(was);
        };
    }

    private String many(String was) {
        String told = new String[] {"fire 1;", "street $;", "number $;", "law each all;", "wed all;", ";", "lane a b;"}[upTo(7)];
        StringBuilder all = new StringBuilder(upTo(2) == 0 ? was : "");
        int times = upTo(2) == 0 ? 90 : upTo(20);
        for (int i = 0; i < times; i++) {
            all.append(told.replace("$", told.startsWith("n") ? Integer.toString(2000 + i) : "q" + (char) ('a' + i % 26)));
        }
        return all.toString();
    }
}
