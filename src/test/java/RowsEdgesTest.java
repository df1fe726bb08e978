/** The edges of promises 22 to 30: the rows, chains, wishes, pairs, verdicts, who else, places. */
public final class RowsEdgesTest {
    private static final Check C = new Check();

    public static void main(String[] args) {
        put();
        unput();
        chainOfFew();
        chainOfTen();
        chainTies();
        chainWays();
        chainVisa();
        chainAlone();
        wishes();
        pairOfFew();
        pairOfMany();
        pairRanks();
        tell();
        judgeFaulty();
        judgeUnstable();
        judgeRow();
        whoElseRanks();
        whoElseWhere();
        whoMayByOtherStays();
        placeOfFew();
        placeOfMany();
        placeTies();
        C.finish("RowsEdgesTest");
    }

    private static void due(String what, long got, long want) {
        C.due(what, got, want);
    }

    /** Keepers in town 0 and houses in towns 0 .. 9 and again, no beasts. */
    private static HouseKeepers people(int keepers, int houses) {
        HouseKeepers x = new HouseKeepers();
        for (int i = 0; i < keepers; i++) x.keeper(0, 0, 1, 0);
        for (int i = 0; i < houses; i++) x.house(i % 10, 0);
        return x;
    }

    private static void row(HouseKeepers x, int... stays) {
        x.unput();
        for (int stay : stays) x.put(stay);
    }

    private static void chained(String name, HouseKeepers x, int days, int set) {
        due(name + ": days", x.chain(0, 0), days);
        due(name + ": set", x.chain(0, 1), set);
    }

    private static void term(HouseKeepers x, String text, int house) {
        Check.feedText(x, text);
        x.term(house, x.count(0));
    }

    // Promise 22
    private static void put() {
        HouseKeepers x = new HouseKeepers();
        due("P22 -2", x.put(-2), -4);
        due("P22 the least", x.put(-1), 1);
        due("P22 100", x.put(100), -6);
        due("P22 the greatest", x.put(99), 2);
        for (int i = 3; i <= 11; i++) x.put(0);
        due("P22 a 12th", x.put(0), 12);
        due("P22 a 13th", x.put(0), -6);
        due("P22 a 13th below", x.put(-2), -4);
        due("P22 how many", x.count(17), 12);
        due("P23 a full row", x.unput(), 12);
        due("P22 the first again", x.put(0), 1);
    }

    // Promise 23
    private static void unput() {
        HouseKeepers x = people(1, 2);
        due("P23 an empty row", x.unput(), 0);
        x.stay(0, 5, 6);
        x.stay(1, 9, 9);
        x.put(0);
        x.tell(0);
        due("P23 of one", x.unput(), 1);
        due("P23 the row of keepers stays", x.count(18), 1);
        due("P23 none", x.unput(), 0);
        x.put(1);
        chained("P23 what was put since", x, 1, 1);
    }

    // Promise 24
    private static void chainOfFew() {
        HouseKeepers x = people(1, 2);
        chained("P24 an empty row", x, 0, 0);
        x.stay(0, 1, 1);
        x.stay(1, 1, 1500);
        row(x, 0);
        chained("P24 one of one day", x, 1, 1);
        row(x, 1);
        chained("P24 one of all days", x, 1500, 1);
        row(x, 0, 1);
        chained("P24 the longer one", x, 1500, 2);
        x.days(1);
        chained("P24 both have begun", x, 0, 0);
        due("P24 they are open still", x.count(4), 2);
        due("P24 the row stays", x.count(17), 2);
        due("P24 what -1", x.chain(0, -1), -2);
        due("P24 what 2", x.chain(0, 2), -2);
    }

    private static void chainOfTen() {
        HouseKeepers x = people(1, 1);
        for (int s = 0; s < 12; s++) x.stay(0, 30 - 2 * s, 31 - 2 * s);
        row(x, 0, 1, 2, 3, 4, 5, 6, 7, 8, 9);
        chained("P24 ten on end, told backwards", x, 20, 1023);
        x.put(10);
        due("P24 eleven", x.chain(0, 0), -6);
        x.put(11);
        due("P24 twelve", x.chain(0, 1), -6);
        row(x, 2, 3, 4, 5, 6, 7, 8, 9, 10, 11);
        chained("P24 another ten", x, 20, 1023);
        x.limit(0, 7);
        chained("P24 three of ten, the least", x, 6, 7);
        x.limit(0, 1);
        chained("P24 none of ten", x, 0, 0);
        HouseKeepers y = people(1, 10);
        for (int h = 0; h < 10; h++) y.stay(h, 5, 14 - h);
        row(y, 9, 8, 7, 6, 5, 4, 3, 2, 1, 0);
        chained("P24 one of ten that clash", y, 10, 512);
    }

    private static void chainTies() {
        HouseKeepers x = people(1, 6);
        for (int town = 1; town < 6; town++) x.way(0, town, 1);
        x.stay(0, 1, 3);
        x.stay(1, 4, 6);
        x.stay(2, 1, 6);
        x.stay(3, 1, 6);
        x.stay(4, 4, 6);
        x.stay(5, 1, 3);
        row(x, 0, 1, 2, 3, 4, 5);
        chained("P24 one stay rather than two", x, 6, 4);
        row(x, 0, 1, 3, 2);
        chained("P24 of two like ones the least as bits", x, 6, 4);
        row(x, 0, 1, 4, 5);
        chained("P24 of four like pairs the least as bits", x, 6, 3);
        row(x, 1, 4, 5, 0);
        chained("P24 places in the row, not numbers of stays", x, 6, 5);
        row(x, 4, 1);
        chained("P24 of two single ones", x, 3, 1);
        HouseKeepers y = people(1, 3);
        y.stay(0, 1, 5);
        y.stay(1, 1, 6);
        y.stay(2, 7, 7);
        row(y, 2, 0, 1);
        chained("P24 more days rather than fewer stays", y, 7, 5);
        HouseKeepers z = people(1, 4);
        z.stay(0, 1, 12);
        z.stay(1, 2, 5);
        z.stay(2, 6, 9);
        z.stay(3, 10, 14);
        row(z, 0, 1, 2, 3);
        chained("P24 three later ones rather than one that is longer than each", z, 13, 14);
        z.stay(0, 13, 13);
        row(z, 0, 1, 2, 3, 4);
        chained("P24 13 days both ways: the fewest stays", z, 13, 17);
    }

    private static void chainWays() {
        HouseKeepers x = people(1, 4);
        x.stay(1, 5, 6);
        x.stay(2, 8, 9);
        x.stay(3, 11, 12);
        row(x, 2, 1, 0);
        chained("P24 a day lies between", x, 6, 7);
        x.way(1, 2, 48);
        x.way(2, 3, 48);
        chained("P24 just two days each", x, 6, 7);
        x.way(2, 3, 49);
        chained("P24 three days are more", x, 4, 5);
        x.way(1, 2, 49);
        x.way(1, 3, 121);
        chained("P24 one of three", x, 2, 1);
        x.way(1, 3, 120);
        chained("P24 the ends", x, 4, 5);
        x.take(0, 1);
        row(x, 2, 0);
        chained("P24 none fits the one taken", x, 0, 0);
        x.way(1, 2, 24);
        chained("P24 one fits the one taken", x, 2, 2);
        x.way(2, 3, 48);
        x.way(1, 3, 240);
        chained("P24 the taken one lies between", x, 4, 3);
        HouseKeepers y = people(1, 3);
        y.way(0, 2, 240);
        y.stay(1, 1, 1);
        y.stay(2, 2, 9);
        row(y, 1);
        chained("P24 too far from the first place", y, 0, 0);
        row(y, 1, 0);
        chained("P24 but not by way of another one of the set", y, 9, 3);
        y.take(0, 0);
        row(y, 1);
        chained("P24 nor by way of one that is taken", y, 8, 1);
    }

    private static void chainVisa() {
        HouseKeepers x = people(1, 3);
        x.way(0, 1, 1);
        x.way(0, 2, 1);
        x.limit(0, 10);
        x.stay(0, 1, 6);
        x.stay(1, 180, 184);
        x.stay(2, 185, 189);
        row(x, 0, 1, 2);
        chained("P24 180 to 189 are ten", x, 16, 7);
        x.limit(0, 9);
        chained("P24 limit 9: not both later ones", x, 11, 3);
        x.limit(0, 7);
        chained("P24 1 to 6 and 180 are seven in 180 days", x, 11, 3);
        x.limit(0, 6);
        chained("P24 limit 6: the last ones lie 180 days behind", x, 11, 5);
        x.limit(0, 5);
        chained("P24 limit 5", x, 5, 2);
        x.limit(0, 0);
        chained("P24 limit 0", x, 0, 0);
        x.limit(0, 7);
        x.town(2, 1);
        chained("P24 another land", x, 16, 7);
    }

    private static void chainAlone() {
        HouseKeepers x = people(2, 2);
        x.house(0, 1);
        x.stay(0, 2, 3);
        x.stay(1, 5, 6);
        x.stay(2, 8, 9);
        row(x, 0, 1, 2);
        chained("P24 without beasts of the third", x, 4, 3);
        term(x, "(d=9)", 1);
        chained("P24 nor against the term of the second", x, 2, 1);
        x.days(1);
        chained("P24 it begins tomorrow", x, 2, 1);
        x.days(1);
        chained("P24 it has begun", x, 0, 0);
        due("P24 no keeper 2", x.chain(2, 0), -1);
        due("P24 keeper 1", x.chain(1, 0), 0);
    }

    // Promise 25
    private static void wishes() {
        HouseKeepers x = people(20, 0);
        for (int k = 0; k < 20; k++) {
            for (int land = 0; land < 5; land++) due("P25 0 at first", x.wish(k, land, 4 * k + land), 0);
        }
        for (int k = 0; k < 20; k++) {
            for (int land = 0; land < 5; land++) due("P25 each its own", x.wish(k, land, 0), 4 * k + land);
        }
        due("P25 the greatest", x.wish(19, 4, 99), 0);
        due("P25 100", x.wish(19, 4, 100), -6);
        due("P25 -1", x.wish(19, 4, -1), -4);
        due("P25 the least", x.wish(19, 4, 0), 99);
        due("P25 no keeper 20", x.wish(20, 4, 0), -1);
        due("P25 no land 5", x.wish(19, 5, 0), -1);
    }

    private static void paired(String name, HouseKeepers x, int... who) {
        for (int i = 0; i < who.length; i++) due("P26 " + name + ", place " + i, x.pair(i), who[i]);
        due("P26 " + name + ", no place", x.pair(who.length), -2);
        due("P26 " + name + ", no place below", x.pair(-1), -2);
    }

    // Promise 26
    private static void pairOfFew() {
        HouseKeepers x = new HouseKeepers();
        paired("nothing at all", x);
        x.house(0, 0);
        x.stay(0, 5, 5);
        row(x, 0);
        paired("no keeper", x, -9);
        x.keeper(0, 0, 1, 0);
        paired("one of each", x, 0);
        x.house(0, 0);
        x.stay(1, 5, 5);
        row(x, 1, 0);
        paired("two for one keeper: the place in the row", x, 0, -9);
        x.keeper(0, 0, 1, 0);
        x.keeper(0, 0, 1, 0);
        paired("three keepers for two", x, 0, 1);
        x.days(4);
        paired("tomorrow", x, 0, 1);
        x.days(1);
        paired("today", x, -9, -9);
        due("P26 they are open still", x.count(4), 2);
    }

    private static void pairOfMany() {
        HouseKeepers x = people(20, 7);
        for (int h = 0; h < 7; h++) x.stay(h, 5, 5);
        row(x, 5, 4, 3, 2, 1, 0);
        paired("twenty for six", x, 0, 1, 2, 3, 4, 5);
        term(x, "(k>13)", -1);
        paired("the last six of twenty", x, 14, 15, 16, 17, 18, 19);
        term(x, "(k=19)", -1);
        paired("the last of twenty", x, 19, -9, -9, -9, -9, -9);
        x.put(6);
        due("P26 seven", x.pair(0), -6);
        HouseKeepers y = people(6, 6);
        for (int h = 0; h < 6; h++) y.stay(h, 5, 5);
        for (int town = 0; town < 5; town++) y.town(town, town);
        y.town(5, 0);
        for (int k = 0; k < 6; k++) {
            for (int land = 0; land < 5; land++) y.wish(k, land, 99 - 20 * land);
        }
        row(y, 0, 1, 2, 3, 4, 5);
        paired("all wish alike", y, 0, 2, 3, 4, 5, 1);
    }

    /** Trust: keeper 0 -100, keeper 1 100, keepers 2 and 3 0. Stays 2, 3, 4 in lands 0, 1, 2. */
    private static HouseKeepers rivals() {
        HouseKeepers x = people(4, 3);
        x.stay(0, 1, 1);
        x.stay(0, 2, 2);
        x.take(0, 0);
        x.take(1, 1);
        x.days(3);
        x.review(0, true, 1);
        x.review(0, false, 3);
        x.review(1, true, 5);
        x.review(1, false, 3);
        for (int h = 0; h < 3; h++) {
            x.town(h, h);
            x.stay(h, 50, 50);
        }
        row(x, 2, 3, 4);
        return x;
    }

    private static void pairRanks() {
        HouseKeepers x = rivals();
        due("P19 keeper 0", x.trust(0, 3), -100);
        due("P19 keeper 1", x.trust(1, 3), 100);
        paired("no wishes: by places and by trust", x, 1, 2, 3);
        for (int k = 0; k < 4; k++) x.wish(k, 2, 1);
        paired("one wish more than 0", x, 2, 3, 1);
        x.wish(1, 0, 1);
        paired("like wishes: the place in the row", x, 1, 3, 2);
        x.wish(1, 1, 2);
        paired("the greatest wish", x, 3, 1, 2);
        term(x, "(t<0)", 2);
        paired("the least trusted is let alone", x, 2, 1, 0);
        term(x, "0", -1);
        paired("nobody may for those without their own", x, -9, -9, 0);
    }

    // Promise 27
    private static void tell() {
        HouseKeepers x = new HouseKeepers();
        due("P27 -2", x.tell(-2), -4);
        due("P27 the least", x.tell(-1), 1);
        due("P27 100", x.tell(100), -6);
        due("P27 the greatest", x.tell(99), 2);
        for (int i = 3; i <= 5; i++) x.tell(0);
        due("P27 a 6th", x.tell(0), 6);
        due("P27 a 7th", x.tell(0), -6);
        due("P27 a 7th below", x.tell(-2), -4);
        due("P27 how many", x.count(18), 6);
        due("P27 not of the other row", x.count(17), 0);
        due("P23 not taken away by it", x.unput(), 0);
        due("P27 how many still", x.count(18), 6);
    }

    private static void judged(HouseKeepers x, int want, int... who) {
        StringBuilder name = new StringBuilder("P28");
        for (int k : who) {
            x.tell(k);
            name.append(' ').append(k);
        }
        due(name.toString(), x.judge(), want);
        due("P28 the row of keepers has none then", x.count(18), 0);
    }

    // Promise 28
    private static void judgeFaulty() {
        HouseKeepers x = people(3, 6);
        x.house(0, 1);
        for (int h = 0; h < 6; h++) x.stay(h, 5, 5);
        x.stay(6, 5, 5);
        row(x, 0, 1, 2, 3, 4, 6);
        judged(x, 0, 3, -1, -1, -1, -1, -1);
        judged(x, 0, 99, 3, 3, 3, 3, 3);
        judged(x, 5, 0, 1, 2, -1, -1, 3);
        judged(x, 5, 1, 2, -1, -1, -1, 0);
        judged(x, 5, 0, -1, -1, -1, -1, 0);
        judged(x, 1, 0, 0, -1, -1, -1, 0);
        judged(x, 4, 0, -1, 1, -1, 1, 0);
        judged(x, -9, 0, 1, 2, -1, -1, -1);
        judged(x, 1, 0, 20, 1, 1, 2, 2);
        term(x, "(k<2)", 1);
        judged(x, 1, 0, 2, 2, -1, -1, -1);
        judged(x, 2, 0, 1, 1, 2, -1, -1);
        judged(x, -9, 0, 1, 2, -1, -1, -1);
    }

    private static void judgeUnstable() {
        HouseKeepers x = people(1, 6);
        for (int h = 0; h < 6; h++) x.stay(h, 5, 5);
        row(x, 0, 1, 2, 3, 4, 5);
        judged(x, 20, -1, -1, -1, -1, -1, -1);
        for (int at = 1; at < 6; at++) {
            int[] who = {-1, -1, -1, -1, -1, -1};
            who[at] = 0;
            judged(x, 20, who);
        }
        judged(x, -9, 0, -1, -1, -1, -1, -1);
        for (int h = 0; h < 5; h++) term(x, "0", h);
        judged(x, 25, -1, -1, -1, -1, -1, -1);
        judged(x, -9, -1, -1, -1, -1, -1, 0);
        HouseKeepers y = rivals();
        judged(y, -9, 1, 2, 3);
        judged(y, 20, 2, 1, 3);
        judged(y, 20, 0, 1, 2);
        judged(y, 21, 1, 3, 2);
        judged(y, 21, 1, 0, 2);
        judged(y, 22, 1, 2, 0);
        judged(y, 22, 1, 2, -1);
        judged(y, 21, 1, -1, 2);
        judged(y, 20, -1, 2, 3);
        y.wish(1, 2, 1);
        judged(y, 22, 1, 2, 3);
        judged(y, -9, 2, 3, 1);
        y.wish(1, 0, 1);
        judged(y, -9, 1, 2, 3);
        judged(y, 20, 2, 3, 1);
        term(y, "0", -1);
        judged(y, -9, -1, -1, -1);
        judged(y, 2, -1, -1, 0);
    }

    private static void judgeRow() {
        HouseKeepers x = new HouseKeepers();
        due("P28 both are empty", x.judge(), -9);
        x.tell(-1);
        due("P28 one for none", x.judge(), -3);
        due("P28 it stays", x.count(18), 1);
        x.house(0, 0);
        x.stay(0, 5, 5);
        x.put(0);
        due("P28 one for one", x.judge(), -9);
        due("P28 it has none", x.count(18), 0);
        due("P28 none for one", x.judge(), -3);
        due("P28 the row of stays stays", x.count(17), 1);
        x.tell(0);
        x.put(9);
        due("P28 no stay ahead of not as many", x.judge(), -1);
        row(x, 0, 0);
        due("P28 twice ahead of not as many", x.judge(), -3);
        due("P28 it stays after both", x.count(18), 1);
        row(x, 0);
        due("P28 no keeper 0", x.judge(), 0);
        HouseKeepers y = people(0, 7);
        for (int h = 0; h < 7; h++) y.stay(h, 5, 5);
        row(y, 0, 1, 2, 3, 4, 5, 6);
        for (int i = 0; i < 6; i++) y.tell(-1);
        due("P28 seven ahead of not as many", y.judge(), -6);
        row(y, 0, 1, 2, 3, 4, 5);
        due("P28 six for six", y.judge(), -9);
    }

    // Promise 29
    private static void whoElseRanks() {
        HouseKeepers x = rivals();
        due("P29 like hours: the greatest trust", x.whoElse(2), 1);
        term(x, "1-(k=1)", -1);
        due("P29 like trust: the least", x.whoElse(2), 2);
        x.keeper(0, 0, 1, 0);
        due("P29 like trust, the least still", x.whoElse(2), 2);
        term(x, "(k=0)", -1);
        due("P29 the least trusted is the only one", x.whoElse(2), 0);
        term(x, "0", -1);
        due("P29 none may", x.whoElse(2), -9);
        due("P29 a taken one", x.whoElse(0), -9);
        x.cancel(2);
        due("P29 a cancelled one", x.whoElse(2), -9);
        due("P29 no stay", x.whoElse(5), -1);
        due("P29 no stay -1", x.whoElse(-1), -1);
        HouseKeepers y = people(0, 1);
        y.stay(0, 2, 2);
        due("P29 no keeper at all", y.whoElse(0), -9);
        y.keeper(0, 0, 1, 0);
        due("P29 one", y.whoElse(0), 0);
        y.days(1);
        due("P29 it begins tomorrow", y.whoElse(0), 0);
        y.days(1);
        due("P29 it begins today", y.whoElse(0), -9);
    }

    private static void whoElseWhere() {
        HouseKeepers x = new HouseKeepers();
        for (int town = 0; town < 3; town++) x.keeper(town, 0, 1, 0);
        for (int town = 0; town < 4; town++) x.house(town, 0);
        x.way(0, 3, 30);
        x.way(1, 3, 29);
        x.way(2, 3, 31);
        x.stay(3, 20, 21);
        due("P29 the least hours", x.whoElse(0), 1);
        x.way(1, 3, 30);
        due("P29 like hours: the least", x.whoElse(0), 0);
        x.way(1, 3, 240);
        x.way(0, 3, 240);
        x.way(2, 3, 239);
        due("P29 239 hours", x.whoElse(0), 2);
        x.stay(3, 10, 19);
        due("P29 in the town itself, but not yet", x.take(0, 1), 1);
        due("P29 hours 0 from the stay that ends the day ahead", x.whoElse(0), 0);
        x.cancel(1);
        due("P29 cancelled, not there", x.whoElse(0), 2);
        x.stay(3, 22, 23);
        x.take(0, 2);
        due("P29 a stay behind it does not tell where one is", x.whoElse(0), 2);
    }

    /** In a row, too, a keeper may not what does not fit the stays that one has taken. */
    private static void whoMayByOtherStays() {
        HouseKeepers x = people(2, 2);
        x.stay(0, 10, 12);
        x.stay(1, 12, 13);
        due("P11 the least keeper", x.take(0, 0), 1);
        due("P29 a clash", x.whoElse(1), 1);
        due("P29 a taken one that has not begun", x.whoElse(0), -9);
        row(x, 1);
        paired("a clash", x, 1);
        placed("a clash", x, 24, 1, 1);
        judged(x, 0, 0);
        judged(x, 20, -1);
        judged(x, -9, 1);
        x.cancel(1);
        x.stay(1, 13, 14);
        row(x, 2);
        paired("the day behind", x, 0);
        placed("the day behind", x, 24, 1, 0);
        judged(x, 20, 1);
        x.way(0, 1, 25);
        due("P29 too far from the one taken", x.whoElse(2), 1);
        paired("too far from the one taken", x, 1);
        placed("too far from the one taken", x, 25, 1, 1);
        x.way(0, 1, 24);
        x.limit(0, 4);
        due("P29 too many days", x.whoElse(2), 1);
        paired("too many days", x, 1);
        placed("too many days", x, 24, 1, 1);
        x.limit(0, 5);
        due("P29 as many days", x.whoElse(2), 0);
        paired("as many days", x, 0);
        x.cancel(0);
        due("P29 a cancelled one that has not begun", x.whoElse(0), -9);
    }

    private static void placed(String name, HouseKeepers x, int hours, int howMany, int... who) {
        for (int i = 0; i < who.length; i++) due("P30 " + name + ", place " + i, x.place(i), who[i]);
        due("P30 " + name + ", hours", x.place(10), hours);
        due("P30 " + name + ", how many", x.place(11), howMany);
        due("P30 " + name + ", no place", x.place(who.length), -2);
        due("P30 " + name + ", no place below", x.place(-1), -2);
        due("P30 " + name + ", nine is none", x.place(9), -2);
        due("P30 " + name + ", twelve is none", x.place(12), -2);
    }

    // Promise 30
    private static void placeOfFew() {
        HouseKeepers x = new HouseKeepers();
        placed("nothing at all", x, 0, 0);
        x.house(1, 0);
        x.stay(0, 5, 5);
        row(x, 0);
        placed("no keeper", x, 0, 0, -9);
        x.keeper(0, 0, 1, 0);
        placed("one of each", x, 24, 1, 0);
        x.house(0, 0);
        x.stay(1, 5, 5);
        row(x, 0, 1);
        placed("the least hours of two ways", x, 0, 1, -9, 0);
        x.keeper(0, 0, 1, 0);
        placed("the most ahead of the least hours", x, 24, 2, 0, 1);
        x.days(5);
        placed("begun", x, 0, 0, -9, -9);
        due("P30 they are open still", x.count(4), 2);
    }

    private static void placeOfMany() {
        HouseKeepers x = people(20, 7);
        for (int town = 1; town < 7; town++) x.way(0, town, 240);
        for (int h = 0; h < 7; h++) x.stay(h, 15, 15);
        row(x, 1, 2, 3, 4, 5, 6);
        placed("the most hours of all", x, 1440, 6, 0, 1, 2, 3, 4, 5);
        term(x, "(k>13)", -1);
        placed("the last six of twenty", x, 1440, 6, 14, 15, 16, 17, 18, 19);
        term(x, "(k=19)", -1);
        placed("the last of twenty", x, 240, 1, 19, -9, -9, -9, -9, -9);
        term(x, "(k>18)", 6);
        term(x, "0", -1);
        placed("the last of twenty for the last place", x, 240, 1, -9, -9, -9, -9, -9, 19);
        x.put(0);
        due("P30 seven", x.place(0), -6);
        due("P30 seven, hours", x.place(10), -6);
        HouseKeepers y = people(5, 6);
        for (int town = 0; town < 6; town++) y.way(town, (town + 1) % 6, 1 + 10 * town);
        for (int h = 0; h < 6; h++) y.stay(h, 15, 15);
        row(y, 0, 1, 2, 3, 4, 5);
        placed("five for six: without the farthest", y, 1 + 24 + 24 + 24, 5, 0, 1, 2, 3, 4, -9);
    }

    private static void placeTies() {
        HouseKeepers x = people(1, 2);
        x.house(0, 0);
        x.stay(0, 15, 15);
        x.stay(2, 15, 15);
        row(x, 0, 1);
        placed("like hours: none comes last", x, 0, 1, 0, -9);
        x.keeper(0, 0, 1, 0);
        x.keeper(0, 0, 1, 0);
        placed("like hours: the least keepers", x, 0, 2, 0, 1);
        term(x, "(k=0)", 2);
        placed("the most, though the first has another keeper", x, 0, 2, 1, 0);
        HouseKeepers y = new HouseKeepers();
        y.keeper(0, 0, 1, 0);
        y.keeper(1, 0, 1, 0);
        y.house(2, 0);
        y.house(3, 0);
        y.stay(0, 15, 15);
        y.stay(1, 15, 15);
        row(y, 0, 1);
        y.way(0, 2, 10);
        y.way(1, 3, 21);
        y.way(0, 3, 20);
        y.way(1, 2, 11);
        placed("31 hours both ways: the first", y, 31, 2, 0, 1);
        y.way(0, 2, 11);
        placed("an hour more", y, 31, 2, 1, 0);
        term(y, "(k=1)", 0);
        term(y, "(k=1)", 1);
        placed("one for both: the least hours", y, 11, 1, 1, -9);
        y.way(1, 3, 10);
        placed("one for both: the least hours at the second", y, 10, 1, -9, 1);
        y.way(1, 3, 11);
        placed("one for both, like hours: the first", y, 11, 1, 1, -9);
    }
}
