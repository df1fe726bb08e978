/** The edges of promises 17 to 21: when reviews may be told and when they count, hands, trust, bounds, stars. */
public final class ReviewsEdgesTest {
    private static final Check C = new Check();

    public static void main(String[] args) {
        whenToTell();
        starsTold();
        toldOnce();
        shutOrNot();
        countsOnADay();
        countsByTheOther();
        countsLate();
        daysAskedFor();
        handCut();
        handOfWhom();
        trustCut();
        trustExtremes();
        trustByHandOfThatDay();
        bounds();
        starsCut();
        C.finish("ReviewsEdgesTest");
    }

    private static void due(String what, long got, long want) {
        C.due(what, got, want);
    }

    /** Keepers 0 .. 3 and houses 0 .. 3, all in one town. */
    private static HouseKeepers people() {
        HouseKeepers x = new HouseKeepers();
        for (int i = 0; i < 4; i++) x.keeper(0, 0, 1, 11111 * i);
        for (int i = 0; i < 4; i++) x.house(0, 0);
        return x;
    }

    /** A stay of so many days that begins tomorrow, taken: its number. */
    private static int taken(HouseKeepers x, int keeper, int house, int days) {
        int now = x.count(0);
        int stay = x.stay(house, now + 1, now + days);
        x.take(keeper, stay);
        return stay;
    }

    /** A stay of one day, over, reviewed both ways on the same day. */
    private static void stayed(HouseKeepers x, int keeper, int house, int ofKeeper, int ofHouse) {
        int stay = taken(x, keeper, house, 1);
        x.days(2);
        x.review(stay, true, ofKeeper);
        x.review(stay, false, ofHouse);
    }

    // Promise 17
    private static void whenToTell() {
        for (boolean ofKeeper : new boolean[] {true, false}) {
            HouseKeepers x = people();
            int s = taken(x, 0, 0, 3);
            due("P17 ahead of it", x.review(s, ofKeeper, 3), -3);
            x.days(1);
            due("P17 on its first day", x.review(s, ofKeeper, 3), -3);
            x.days(2);
            due("P17 on its last day", x.review(s, ofKeeper, 3), -3);
            x.days(1);
            due("P17 the day behind", x.review(s, ofKeeper, 3), 0);
            HouseKeepers y = people();
            int late = taken(y, 0, 0, 3);
            int tooLate = taken(y, 1, 1, 2);
            y.days(33);
            due("P17 30 days behind its last one", y.review(late, ofKeeper, 3), 1);
            due("P17 31 days behind its last one", y.review(tooLate, ofKeeper, 3), -3);
            y.days(1);
            due("P17 the other one a day later", y.review(late, !ofKeeper, 3), -3);
        }
        HouseKeepers x = people();
        int open = x.stay(0, 1, 1);
        int cancelled = taken(x, 0, 1, 1);
        x.cancel(cancelled);
        x.days(2);
        due("P17 nobody took it", x.review(open, true, 3), -3);
        due("P17 cancelled", x.review(cancelled, true, 3), -3);
        int last = x.stay(2, 1500, 1500);
        x.take(0, last);
        x.days(1498);
        due("P17 the last day is never over", x.review(last, true, 3), -3);
        HouseKeepers y = people();
        int lastButOne = y.stay(2, 1499, 1499);
        y.take(0, lastButOne);
        y.days(1500);
        due("P17 on the last day of all", y.review(lastButOne, true, 3), 0);
        due("P17 and it is opened there", y.review(lastButOne, false, 3), 1);
    }

    private static void starsTold() {
        for (int stars = 1; stars <= 5; stars++) {
            HouseKeepers x = people();
            int s = taken(x, 0, 0, 1);
            x.days(2);
            due("P17 below", x.review(s, true, 0), -4);
            due("P17 above", x.review(s, true, 6), -6);
            due("P17 refused ones are not told", x.count(8), 0);
            due("P17 of the keeper", x.review(s, true, stars), 0);
            due("P17 of the house", x.review(s, false, 6 - stars), 1);
            due("P18 the hand", x.hand(0, 2), 100 * stars);
            due("P21 the stars", x.stars(0, 2), 100 * (6 - stars));
        }
    }

    private static void toldOnce() {
        HouseKeepers x = people();
        int s = taken(x, 0, 0, 1);
        x.days(2);
        due("P17 of the house", x.review(s, false, 2), 0);
        due("P17 again", x.review(s, false, 3), -3);
        due("P17 again, below", x.review(s, false, 0), -3);
        due("P17 of the keeper", x.review(s, true, 4), 1);
        due("P17 again of the keeper", x.review(s, true, 4), -3);
        due("P17 told", x.count(8), 2);
        due("P17 the first one stands", x.stars(0, 2), 200);
    }

    private static void shutOrNot() {
        HouseKeepers x = people();
        int a = taken(x, 0, 0, 1);
        int b = taken(x, 1, 1, 1);
        x.days(15);
        due("P17 14 days behind: shut", x.review(a, true, 5), 0);
        due("P36 none counts", x.count(9), 0);
        x.days(1);
        due("P17 15 days behind: not shut", x.review(b, true, 5), 1);
        due("P36 both count", x.count(9), 2);
        due("P17 nor the other one", x.review(b, false, 5), 1);
        due("P36 three count", x.count(9), 3);
        HouseKeepers y = people();
        int c = taken(y, 0, 0, 1);
        y.days(15);
        y.review(c, false, 5);
        due("P17 opened by the other one on the 14th day", y.review(c, true, 5), 1);
        due("P36 two count", y.count(9), 2);
    }

    // Promise 18
    private static void countsOnADay() {
        HouseKeepers x = people();
        int s = taken(x, 0, 0, 1);
        x.days(4);
        x.review(s, true, 1);
        x.days(16);
        int[] days = {0, 1, 3, 4, 14, 15, 16, 17, 20};
        int[] hands = {300, 300, 300, 300, 300, 300, 100, 100, 100};
        for (int i = 0; i < days.length; i++) due("P18 known on " + days[i], x.hand(0, days[i]), hands[i]);
        due("P18 day 21 is behind now", x.hand(0, 21), -6);
        due("P18 day -1", x.hand(0, -1), -4);
    }

    private static void countsByTheOther() {
        HouseKeepers x = people();
        int s = taken(x, 0, 0, 1);
        x.days(4);
        x.review(s, true, 1);
        x.days(3);
        due("P17 opens both", x.review(s, false, 2), 1);
        x.days(13);
        for (int k = 0; k <= 20; k++) {
            due("P18 known on " + k, x.hand(0, k), k < 7 ? 300 : 100);
            due("P21 known on " + k, x.stars(0, k), k < 7 ? -9 : 200);
        }
        HouseKeepers y = people();
        int t = taken(y, 0, 0, 1);
        y.days(4);
        y.review(t, false, 2);
        y.days(3);
        y.review(t, true, 1);
        for (int k = 0; k <= 7; k++) {
            due("P18 the other way, on " + k, y.hand(0, k), k < 7 ? 300 : 100);
            due("P21 the other way, on " + k, y.stars(0, k), k < 7 ? -9 : 200);
        }
    }

    /** Told so late that it is never shut: it counts from the day on which it was told. */
    private static void countsLate() {
        HouseKeepers x = people();
        int s = taken(x, 0, 0, 1);
        x.days(18);
        x.review(s, true, 5);
        x.days(3);
        x.review(s, false, 4);
        for (int k = 15; k <= 21; k++) {
            due("P18 told late, on " + k, x.hand(0, k), k < 18 ? 300 : 500);
            due("P21 told later, on " + k, x.stars(0, k), k < 21 ? -9 : 400);
        }
    }

    // Promises 18, 19 and 21
    private static void daysAskedFor() {
        HouseKeepers x = people();
        due("P18 now is 0", x.hand(0, 0), 300);
        due("P19 now is 0", x.trust(0, 0), 0);
        due("P21 now is 0", x.stars(0, 0), -9);
        due("P18 1 is behind now", x.hand(0, 1), -6);
        due("P19 1 is behind now", x.trust(0, 1), 1000000006);
        due("P21 1 is behind now", x.stars(0, 1), -6);
        x.days(1500);
        due("P18 now is 1500", x.hand(3, 1500), 300);
        due("P19 now is 1500", x.trust(3, 1500), 0);
        due("P21 now is 1500", x.stars(3, 1500), -9);
        due("P18 1501", x.hand(3, 1501), -6);
        due("P19 1501", x.trust(3, 1501), 1000000006);
        due("P21 1501", x.stars(3, 1501), -6);
        due("P18 no house 4", x.hand(4, 0), -1);
        due("P19 no keeper 4", x.trust(4, 0), 1000000001);
        due("P21 no house 4", x.stars(4, 0), -1);
    }

    private static void handCut() {
        HouseKeepers x = people();
        int[] given = {1, 1, 2, 5, 5, 5};
        int[] hands = {100, 100, 133, 225, 280, 316};
        for (int i = 0; i < given.length; i++) {
            stayed(x, 0, 0, given[i], 3);
            due("P18 of " + (i + 1), x.hand(0, x.count(0)), hands[i]);
        }
        HouseKeepers y = people();
        for (int i = 0; i < 7; i++) stayed(y, i % 4, 1, i == 0 ? 4 : 5, 1);
        due("P18 3400 by 7, cut", y.hand(1, y.count(0)), 485);
    }

    private static void handOfWhom() {
        HouseKeepers x = people();
        stayed(x, 0, 0, 5, 1);
        stayed(x, 0, 1, 1, 5);
        stayed(x, 1, 1, 2, 4);
        due("P18 what house 0 gave", x.hand(0, x.count(0)), 500);
        due("P18 what house 1 gave", x.hand(1, x.count(0)), 150);
        due("P21 what house 0 was given", x.stars(0, x.count(0)), 100);
        due("P21 what house 1 was given", x.stars(1, x.count(0)), 450);
        due("P18 house 2 gave none", x.hand(2, x.count(0)), 300);
        due("P21 house 2 was given none", x.stars(2, x.count(0)), -9);
        int s = taken(x, 2, 2, 1);
        x.days(2);
        x.review(s, false, 1);
        x.days(14);
        due("P18 one of a house is none that it gave", x.hand(2, x.count(0)), 300);
        due("P21 but it was given", x.stars(2, x.count(0)), 100);
        due("P19 and none of the keeper", x.trust(2, x.count(0)), 0);
        due("P20 nor of how many", x.bound(2, 1), 400);
    }

    // Promise 19
    private static void trustCut() {
        HouseKeepers x = people();
        stayed(x, 0, 0, 3, 3);
        stayed(x, 1, 0, 4, 3);
        stayed(x, 2, 0, 4, 3);
        due("P18 1100 by 3, cut", x.hand(0, 6), 366);
        due("P19 -66 by 2", x.trust(0, 6), -33);
        due("P19 34 by 2", x.trust(1, 6), 17);
        stayed(x, 1, 0, 1, 3);
        due("P18 1200 by 4", x.hand(0, 8), 300);
        due("P19 100 and -200 by 3, cut toward 0", x.trust(1, 8), -33);
        due("P19 100 by 2", x.trust(2, 8), 50);
        stayed(x, 2, 0, 4, 3);
        due("P18 1600 by 5", x.hand(0, 10), 320);
        due("P19 80 and 80 by 3, cut toward 0", x.trust(2, 10), 53);
        due("P19 80 and -220 by 3, cut toward 0", x.trust(1, 10), -46);
        due("P19 -20 by 2", x.trust(0, 10), -10);
        due("P19 nothing", x.trust(3, 10), 0);
        HouseKeepers y = people();
        stayed(y, 0, 0, 3, 3);
        stayed(y, 1, 0, 3, 3);
        stayed(y, 1, 0, 3, 3);
        stayed(y, 2, 0, 4, 3);
        stayed(y, 3, 0, 3, 3);
        stayed(y, 3, 0, 3, 3);
        due("P18 1900 by 6, cut", y.hand(0, 12), 316);
        due("P19 -16 by 2", y.trust(0, 12), -8);
        due("P19 -32 by 3, toward 0", y.trust(1, 12), -10);
    }

    private static void trustExtremes() {
        HouseKeepers x = people();
        for (int i = 0; i < 9; i++) stayed(x, 0, 0, 1, 3);
        for (int i = 0; i < 1; i++) stayed(x, 1, 0, 5, 3);
        due("P18 1400 by 10", x.hand(0, 20), 140);
        due("P19 nine times -40 by 10", x.trust(0, 20), -36);
        due("P19 360 by 2", x.trust(1, 20), 180);
        due("P20 the least of nine", x.bound(0, 0), -76);
        due("P20 the greatest of nine", x.bound(0, 1), 4);
        HouseKeepers y = people();
        for (int i = 0; i < 60; i++) stayed(y, 0, i % 2, i % 2 == 0 ? 5 : 1, 3);
        due("P19 sixty that are as the hands are", y.trust(0, 120), 0);
        due("P20 400 by 61", y.bound(0, 1), 6);
        due("P36 all told", y.count(8), 120);
        due("P36 all count", y.count(9), 120);
    }

    /** A later review of another keeper moves the hand, and so the trust, but not as known ahead of it. */
    private static void trustByHandOfThatDay() {
        HouseKeepers x = people();
        stayed(x, 0, 0, 5, 3);
        due("P19 alone one is as the hand is", x.trust(0, 2), 0);
        stayed(x, 1, 0, 1, 3);
        due("P19 the hand is 300 now", x.trust(0, 4), 100);
        due("P19 the other one", x.trust(1, 4), -100);
        due("P19 as known on 3", x.trust(0, 3), 0);
        due("P19 as known on 1", x.trust(0, 1), 0);
        due("P19 as known now again", x.trust(0, 4), 100);
        stayed(x, 0, 1, 5, 3);
        due("P19 another house's hand", x.trust(0, 6), 66);
        due("P19 as known on 5", x.trust(0, 5), 100);
        int s = taken(x, 0, 0, 1);
        x.days(2);
        x.review(s, true, 1);
        due("P19 a shut one", x.trust(0, 8), 66);
        due("P20 a shut one is not one of how many", x.bound(0, 1), 66 + 133);
        x.days(13);
        due("P19 14 days behind", x.trust(0, 21), 66);
        x.days(1);
        due("P18 15 days behind: 700 by 3", x.hand(0, 22), 233);
        due("P19 15 days behind: 267 and 0 and -133 by 4", x.trust(0, 22), 33);
        due("P20 100 of three", x.bound(0, 0), -67);
    }

    // Promise 20
    private static void bounds() {
        HouseKeepers x = people();
        int[] widths = {400, 200, 133, 100, 80, 66, 57, 50, 44, 40, 36};
        for (int n = 0; n < widths.length; n++) {
            due("P20 least of " + n, x.bound(0, 0), -widths[n]);
            due("P20 greatest of " + n, x.bound(0, 1), widths[n]);
            stayed(x, 0, 0, 4, 3);
        }
        due("P20 what -1", x.bound(0, -1), 1000000002);
        due("P20 what 2", x.bound(0, 2), 1000000002);
        due("P20 no keeper 4", x.bound(4, 0), 1000000001);
        HouseKeepers y = people();
        stayed(y, 0, 0, 5, 3);
        stayed(y, 1, 0, 1, 3);
        due("P20 100 less 200", y.bound(0, 0), -100);
        due("P20 100 more 200", y.bound(0, 1), 300);
        due("P20 -100 less 200", y.bound(1, 0), -300);
        due("P20 -100 more 200", y.bound(1, 1), 100);
    }

    // Promise 21
    private static void starsCut() {
        HouseKeepers x = people();
        int[] given = {1, 1, 2, 5, 5, 5};
        int[] means = {100, 100, 133, 225, 280, 316};
        for (int i = 0; i < given.length; i++) {
            stayed(x, i % 4, 0, 3, given[i]);
            due("P21 of " + (i + 1), x.stars(0, x.count(0)), means[i]);
        }
        due("P21 as known on 6", x.stars(0, 6), 133);
        due("P21 as known on 5", x.stars(0, 5), 100);
        due("P21 as known on 1", x.stars(0, 1), -9);
        due("P18 the hand is another thing", x.hand(0, x.count(0)), 300);
    }
}
