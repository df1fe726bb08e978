/** The edges of promises 1 to 13: days, towns, ways, limits, keepers, houses, stays, why, take, cancel, where. */
public final class StaysEdgesTest {
    private static final Check C = new Check();

    public static void main(String[] args) {
        newObject();
        days();
        towns();
        ways();
        limits();
        keepers();
        houses();
        staysByDays();
        staysOfAHouse();
        staysFull();
        stayOf();
        begun();
        beasts();
        clash();
        wayFromFirstPlace();
        wayFromTheOneAhead();
        wayToTheOneBehind();
        wayBesideOthers();
        visaByLimit();
        visaBySpan();
        visaAtTheEnds();
        visaWhoseDays();
        termLets();
        whyOrder();
        take();
        cancel();
        where();
        C.finish("StaysEdgesTest");
    }

    private static void due(String what, long got, long want) {
        C.due(what, got, want);
    }

    // Promise 1
    private static void newObject() {
        HouseKeepers x = new HouseKeepers();
        due("P1 DAY", x.count(0), 0);
        for (int what = 1; what <= 18; what++) due("P1 count " + what, x.count(what), 0);
        for (int town = 0; town < 10; town++) due("P1 land of " + town, x.town(town, 0), 0);
        for (int land = 0; land < 5; land++) due("P1 limit of " + land, x.limit(land, 180), 180);
        for (int a = 0; a < 10; a++) {
            for (int b = 0; b < 10; b++) if (a != b) due("P1 hours " + a + " " + b, x.way(a, b, 24), 24);
        }
        due("P1 no keeper 0", x.group(0), -1);
        due("P1 no house 0", x.hand(0, 0), -1);
        due("P1 no stay 0", x.stayOf(0, 0), -1);
        due("P1 an empty row", x.unput(), 0);
        due("P1 an empty tape", x.term(-1, 0), -20);
        due("P1 an empty row of keepers", x.judge(), -9);
        HouseKeepers y = new HouseKeepers();
        y.town(3, 4);
        y.way(3, 4, 5);
        y.limit(2, 1);
        y.keeper(0, 0, 1, 0);
        HouseKeepers z = new HouseKeepers();
        due("P1 each has its own land", z.town(3, 0), 0);
        due("P1 each has its own way", z.way(3, 4, 24), 24);
        due("P1 each has its own limit", z.limit(2, 180), 180);
        due("P1 each has its own keepers", z.count(1), 0);
    }

    // Promise 2
    private static void days() {
        HouseKeepers x = new HouseKeepers();
        due("P2 all at once", x.days(1500), 1500);
        due("P2 no more", x.days(1), -6);
        due("P2 DAY", x.count(0), 1500);
        HouseKeepers y = new HouseKeepers();
        due("P2 one too many at once", y.days(1501), -6);
        due("P2 the least", y.days(1), 1);
        due("P2 one too many", y.days(1500), -6);
        due("P2 to the last but one", y.days(1498), 1499);
        due("P2 two are too many", y.days(2), -6);
        due("P2 the last", y.days(1), 1500);
        due("P2 none", y.days(0), -4);
    }

    // Promise 3
    private static void towns() {
        HouseKeepers x = new HouseKeepers();
        for (int town = 0; town < 10; town++) due("P3 to land 4", x.town(town, 4), 0);
        for (int town = 0; town < 10; town++) due("P3 to land " + town % 5, x.town(town, town % 5), 4);
        for (int town = 0; town < 10; town++) due("P3 each its own", x.town(town, 0), town % 5);
        due("P3 town -1", x.town(-1, 0), -1);
        due("P3 town 10", x.town(10, 4), -1);
        due("P3 land -1", x.town(9, -1), -1);
        due("P3 land 5", x.town(9, 5), -1);
    }

    // Promise 4
    private static void ways() {
        HouseKeepers x = new HouseKeepers();
        due("P4 the least", x.way(0, 9, 1), 24);
        due("P4 the greatest", x.way(9, 0, 240), 1);
        due("P4 told both ways", x.way(0, 9, 2), 240);
        due("P4 0", x.way(0, 9, 0), -4);
        due("P4 241", x.way(0, 9, 241), -6);
        due("P4 as it was", x.way(9, 0, 24), 2);
        for (int a = 0; a < 10; a++) {
            for (int b = a + 1; b < 10; b++) due("P4 first of " + a + " " + b, x.way(a, b, 10 * a + b), 24);
        }
        for (int a = 0; a < 10; a++) {
            for (int b = a + 1; b < 10; b++) due("P4 each its own " + a + " " + b, x.way(b, a, 1), 10 * a + b);
        }
        for (int a = 0; a < 10; a++) due("P4 one " + a, x.way(a, a, 1), -1);
    }

    // Promise 5
    private static void limits() {
        HouseKeepers x = new HouseKeepers();
        for (int land = 0; land < 5; land++) due("P5 first", x.limit(land, land), 180);
        for (int land = 0; land < 5; land++) due("P5 each its own", x.limit(land, 180), land);
        due("P5 the least", x.limit(0, 0), 180);
        due("P5 -1", x.limit(0, -1), -4);
        due("P5 181", x.limit(0, 181), -6);
        due("P5 the greatest", x.limit(0, 180), 0);
        due("P5 as it was", x.limit(0, 1), 180);
    }

    // Promise 6
    private static void keepers() {
        HouseKeepers x = new HouseKeepers();
        due("P6 all least", x.keeper(0, 0, 1, 0), 0);
        due("P6 all greatest", x.keeper(9, 255, 2, 99999), 1);
        due("P6 where the first is", x.where(0, 0), 0);
        due("P6 where the second is", x.where(1, 1500), 9);
        due("P6 a refused one has no number", x.keeper(0, 256, 2, 0), -6);
        due("P6 the next", x.keeper(5, 1, 1, 1), 2);
        for (int k = 3; k < 19; k++) x.keeper(0, 0, 1, 0);
        due("P6 a 20th", x.keeper(7, 0, 1, 0), 19);
        due("P6 a 21st", x.keeper(7, 0, 1, 0), -6);
        due("P6 where the 20th is", x.where(19, 3), 7);
        due("P6 no 21st", x.where(20, 3), -1);
        due("P6 how many", x.count(1), 20);
    }

    // Promise 7
    private static void houses() {
        HouseKeepers x = new HouseKeepers();
        due("P7 all least", x.house(0, 0), 0);
        due("P7 all greatest", x.house(9, 255), 1);
        for (int h = 2; h < 19; h++) x.house(0, 0);
        due("P7 a 20th", x.house(7, 0), 19);
        due("P7 a 21st", x.house(7, 0), -6);
        due("P7 its stay", x.stay(19, 1, 1), 0);
        due("P7 no 21st", x.stay(20, 1, 1), -1);
        due("P7 how many", x.count(2), 20);
    }

    // Promise 8
    private static void staysByDays() {
        HouseKeepers x = new HouseKeepers();
        x.house(0, 0);
        due("P8 day 0 is now", x.stay(0, 0, 0), -4);
        due("P8 a stay of one day, the next", x.stay(0, 1, 1), 0);
        due("P8 the last day", x.stay(0, 1500, 1500), 1);
        due("P8 behind the last day", x.stay(0, 1501, 1501), -6);
        due("P8 all between", x.stay(0, 2, 1499), 2);
        due("P8 its days", x.stayOf(2, 2), 1499);
        HouseKeepers y = new HouseKeepers();
        y.house(0, 0);
        due("P8 all days", y.stay(0, 1, 1500), 0);
        y.days(1499);
        y.cancel(0);
        due("P8 now on 1499", y.stay(0, 1499, 1500), -4);
        due("P8 tomorrow is the last", y.stay(0, 1500, 1500), 1);
        y.days(1);
        y.house(0, 0);
        due("P8 no day is left", y.stay(1, 1500, 1500), -4);
        due("P8 none at all", y.stay(1, 1501, 1501), -6);
    }

    private static void staysOfAHouse() {
        HouseKeepers x = new HouseKeepers();
        x.house(0, 0);
        x.house(0, 0);
        x.keeper(0, 0, 1, 0);
        due("P8 one", x.stay(0, 10, 20), 0);
        due("P8 ends on its first day", x.stay(0, 8, 10), -3);
        due("P8 ends the day ahead", x.stay(0, 8, 9), 1);
        due("P8 begins on its last day", x.stay(0, 20, 22), -3);
        due("P8 begins the day behind", x.stay(0, 21, 22), 2);
        due("P8 within", x.stay(0, 15, 15), -3);
        due("P8 around", x.stay(0, 3, 30), -3);
        due("P8 another house", x.stay(1, 10, 20), 3);
        x.take(0, 0);
        due("P8 taken, the same", x.stay(0, 10, 20), -3);
        x.cancel(0);
        due("P8 cancelled, but its neighbour is not", x.stay(0, 9, 20), -3);
        due("P8 cancelled, the same", x.stay(0, 10, 20), 4);
        x.cancel(4);
        due("P8 cancelled again, within", x.stay(0, 11, 11), 5);
        x.days(11);
        due("P8 begun and open", x.stay(0, 12, 12), 6);
        due("P8 the next house's begun one", x.stay(1, 12, 12), -3);
    }

    private static void staysFull() {
        HouseKeepers x = new HouseKeepers();
        x.house(0, 0);
        for (int s = 0; s < 59; s++) x.stay(0, s + 1, s + 1);
        due("P8 a 60th", x.stay(0, 60, 60), 59);
        due("P8 a 61st", x.stay(0, 61, 61), -6);
        x.cancel(59);
        due("P8 a cancelled one keeps its number", x.stay(0, 60, 60), -6);
        due("P8 the 60th", x.stayOf(59, 1), 60);
        due("P8 no 61st", x.stayOf(60, 1), -1);
        due("P8 how many", x.count(3), 60);
    }

    // Promise 9
    private static void stayOf() {
        HouseKeepers x = new HouseKeepers();
        x.house(0, 0);
        x.house(0, 0);
        x.keeper(0, 0, 1, 0);
        x.stay(1, 3, 5);
        x.stay(0, 5, 5);
        x.take(0, 0);
        int[] taken = {1, 3, 5, 1, 0, 0};
        for (int what = 0; what < 6; what++) due("P9 taken " + what, x.stayOf(0, what), taken[what]);
        int[] open = {0, 5, 5, 0, -9, 0};
        for (int what = 0; what < 6; what++) due("P9 open " + what, x.stayOf(1, what), open[what]);
        due("P9 what -1", x.stayOf(1, -1), -2);
        due("P9 what 6", x.stayOf(1, 6), -2);
        x.days(4);
        due("P9 the day ahead of its last", x.stayOf(0, 5), 0);
        x.days(1);
        due("P9 on its last day", x.stayOf(0, 5), 0);
        due("P9 an open one on its last day", x.stayOf(1, 5), 0);
        x.days(1);
        due("P9 behind its last day", x.stayOf(0, 5), 1);
        due("P9 an open one, too", x.stayOf(1, 5), 1);
        due("P9 taken still", x.stayOf(0, 3), 1);
        due("P9 open still", x.stayOf(1, 3), 0);
        x.stay(1, 1500, 1500);
        x.days(1494);
        due("P9 the last day is never over", x.stayOf(2, 5), 0);
    }

    /** Keeper 0 and houses 0 .. 9, one in each town; all in land 0, keeper in town 0, no beasts. */
    private static HouseKeepers around() {
        HouseKeepers x = new HouseKeepers();
        x.keeper(0, 0, 1, 0);
        for (int town = 0; town < 10; town++) x.house(town, 0);
        return x;
    }

    // Promise 10, 1
    private static void begun() {
        HouseKeepers x = around();
        x.stay(0, 3, 9);
        x.days(2);
        due("P10 begins tomorrow", x.why(0, 0), 0);
        x.days(1);
        due("P10 begins today", x.why(0, 0), 1);
        x.days(1);
        due("P10 has begun", x.why(0, 0), 1);
        x.days(6);
        due("P10 is over", x.why(0, 0), 1);
    }

    // Promise 10, 2
    private static void beasts() {
        for (int sort = 0; sort < 8; sort++) {
            HouseKeepers x = new HouseKeepers();
            x.keeper(0, 255 - (1 << sort), 1, 0);
            x.keeper(0, 1 << sort, 1, 0);
            x.keeper(0, 0, 1, 0);
            x.house(0, 1 << sort);
            x.house(0, 255);
            x.house(0, 0);
            for (int h = 0; h < 3; h++) x.stay(h, 5, 5);
            due("P10 all but this sort", x.why(0, 0), 2);
            due("P10 this sort alone", x.why(1, 0), 0);
            due("P10 no sort", x.why(2, 0), 2);
            due("P10 all sorts, but one", x.why(0, 1), 2);
            due("P10 all sorts, one", x.why(1, 1), 2);
            for (int k = 0; k < 3; k++) due("P10 no beasts at all", x.why(k, 2), 0);
        }
        HouseKeepers x = new HouseKeepers();
        x.keeper(0, 255, 1, 0);
        x.house(0, 255);
        x.stay(0, 5, 5);
        due("P10 all sorts", x.why(0, 0), 0);
    }

    // Promise 10, 3
    private static void clash() {
        HouseKeepers x = around();
        x.keeper(0, 0, 1, 0);
        x.stay(0, 10, 20);
        x.take(0, 0);
        int[][] days = {{8, 9, 0}, {8, 10, 3}, {20, 22, 3}, {21, 22, 0}, {15, 15, 3}, {5, 30, 3}, {10, 20, 3}};
        for (int i = 0; i < days.length; i++) {
            x.house(0, 0);
            x.stay(10 + i, days[i][0], days[i][1]);
            due("P10 days " + days[i][0] + " to " + days[i][1], x.why(0, i + 1), days[i][2]);
            due("P10 of another keeper", x.why(1, i + 1), 0);
        }
        x.cancel(0);
        for (int i = 0; i < days.length; i++) due("P10 cancelled, no clash", x.why(0, i + 1), 0);
    }

    private static final int[][] HOURS_AND_DAYS = {
        {1, 1}, {23, 1}, {24, 1}, {25, 2}, {47, 2}, {48, 2}, {49, 3}, {72, 3}, {73, 4}, {216, 9}, {217, 10}, {240, 10}};

    // Promise 10, 4
    private static void wayFromFirstPlace() {
        for (int[] way : HOURS_AND_DAYS) {
            HouseKeepers x = around();
            x.way(0, 1, way[0]);
            x.stay(1, 3 + way[1], 20);
            x.days(3);
            due("P10 as many days for hours " + way[0], x.why(0, 0), 0);
            if (way[1] == 1) continue;
            x.days(1);
            due("P10 fewer days for hours " + way[0], x.why(0, 0), 4);
        }
        HouseKeepers x = around();
        x.stay(0, 1, 1);
        due("P10 hours 0 of one town", x.why(0, 0), 0);
    }

    private static void wayFromTheOneAhead() {
        for (int[] way : HOURS_AND_DAYS) {
            HouseKeepers x = around();
            x.way(1, 2, way[0]);
            x.stay(1, 2, 30);
            x.take(0, 0);
            x.stay(2, 30 + way[1], 50);
            due("P10 as many days behind it for hours " + way[0], x.why(0, 1), 0);
            x.cancel(1);
            if (way[1] == 1) continue;
            x.stay(2, 29 + way[1], 50);
            due("P10 fewer days behind it for hours " + way[0], x.why(0, 2), 4);
        }
    }

    private static void wayToTheOneBehind() {
        for (int[] way : HOURS_AND_DAYS) {
            HouseKeepers x = around();
            x.way(1, 2, way[0]);
            x.stay(1, 50, 60);
            x.take(0, 0);
            x.stay(2, 20, 50 - way[1]);
            due("P10 as many days ahead of it for hours " + way[0], x.why(0, 1), 0);
            x.cancel(1);
            if (way[1] == 1) continue;
            x.stay(2, 20, 51 - way[1]);
            due("P10 fewer days ahead of it for hours " + way[0], x.why(0, 2), 4);
        }
    }

    private static void wayBesideOthers() {
        HouseKeepers x = around();
        x.stay(1, 10, 11);
        x.stay(2, 20, 21);
        x.stay(3, 40, 41);
        x.stay(4, 60, 61);
        for (int s = 0; s < 4; s++) x.take(0, s);
        x.stay(5, 22, 39);
        for (int town : new int[] {0, 1, 4}) x.way(town, 5, 240);
        due("P10 neither the first place nor farther ones", x.why(0, 4), 0);
        x.way(2, 5, 25);
        due("P10 the one that ends last ahead", x.why(0, 4), 4);
        x.way(2, 5, 24);
        x.way(3, 5, 25);
        due("P10 the one that begins first behind", x.why(0, 4), 4);
        x.way(3, 5, 24);
        x.stay(5, 5, 5);
        x.way(0, 5, 24);
        due("P10 from the first place, far to the one behind", x.why(0, 5), 4);
        x.way(1, 5, 120);
        due("P10 near enough to the one behind", x.why(0, 5), 0);
        x.days(4);
        due("P10 since now", x.why(0, 5), 0);
        x.way(0, 5, 25);
        due("P10 since now, too far", x.why(0, 5), 4);
        HouseKeepers y = around();
        y.stay(1, 1, 1);
        y.take(0, 0);
        y.way(0, 2, 240);
        y.stay(2, 3, 3);
        y.days(2);
        due("P10 from one that is over, since its last day", y.why(0, 1), 0);
        y.way(1, 2, 49);
        due("P10 too far from it", y.why(0, 1), 4);
    }

    // Promise 10, 5
    private static void visaByLimit() {
        HouseKeepers x = around();
        x.stay(0, 1, 1);
        x.limit(0, 0);
        due("P10 limit 0", x.why(0, 0), 5);
        x.limit(0, 1);
        due("P10 limit 1, a day", x.why(0, 0), 0);
        x.stay(0, 10, 188);
        x.limit(0, 178);
        due("P10 179 days, limit 178", x.why(0, 1), 5);
        x.limit(0, 179);
        due("P10 179 days, limit 179", x.why(0, 1), 0);
        x.stay(0, 200, 379);
        due("P10 180 days, limit 179", x.why(0, 2), 5);
        x.limit(0, 180);
        due("P10 180 days, limit 180", x.why(0, 2), 0);
        x.stay(0, 400, 1500);
        due("P10 far more days, but 180 in 180", x.why(0, 3), 0);
        x.limit(0, 179);
        due("P10 far more days, limit 179", x.why(0, 3), 5);
        x.limit(1, 0);
        x.town(1, 1);
        x.limit(0, 180);
        due("P10 another land's limit", x.why(0, 0), 0);
    }

    private static void visaBySpan() {
        HouseKeepers x = around();
        x.limit(0, 2);
        x.stay(0, 500, 501);
        x.take(0, 0);
        int[] firstDays = {679, 680, 321, 322, 502, 499};
        int[] why = {5, 0, 0, 5, 5, 5};
        for (int i = 0; i < firstDays.length; i++) {
            x.stay(1 + i, firstDays[i], firstDays[i]);
            x.way(0, 1 + i, 1);
            due("P10 with 500 and 501, day " + firstDays[i], x.why(0, 1 + i), why[i]);
        }
        x.stay(9, 680, 681);
        due("P10 501 and 680 and 681 in 181 days", x.why(0, 7), 0);
        x.stay(8, 320, 321);
        due("P10 320 and 321 and 500 in 181 days", x.why(0, 8), 0);
        x.stay(0, 680, 682);
        due("P10 three days by themselves", x.why(0, 9), 5);
        x.stay(0, 679, 679);
        due("P10 500 to 679 are 180 days", x.why(0, 10), 5);
    }

    private static void visaAtTheEnds() {
        HouseKeepers x = around();
        x.limit(0, 5);
        x.stay(0, 1, 5);
        x.stay(0, 6, 6);
        x.stay(0, 180, 180);
        x.stay(0, 181, 185);
        x.stay(0, 1321, 1321);
        x.stay(0, 1496, 1500);
        x.stay(0, 1320, 1320);
        due("P10 the first days", x.take(0, 0), 1);
        due("P10 one more", x.why(0, 1), 5);
        due("P10 one more on day 180", x.why(0, 2), 5);
        due("P10 as many from day 181 on", x.why(0, 3), 0);
        due("P10 the last days", x.take(0, 5), 1);
        due("P10 180 days to 1500 begin with 1321", x.why(0, 4), 5);
        due("P10 1320 to 1499 have four and this one", x.why(0, 6), 0);
    }

    private static void visaWhoseDays() {
        HouseKeepers x = around();
        x.keeper(0, 0, 1, 0);
        x.town(1, 1);
        x.limit(0, 3);
        x.stay(0, 10, 12);
        x.stay(1, 20, 29);
        x.stay(2, 40, 42);
        x.stay(3, 40, 41);
        x.take(1, 0);
        due("P10 another keeper's days are none", x.why(0, 2), 0);
        x.take(0, 1);
        due("P10 another land's days are none", x.why(0, 2), 0);
        due("P10 one's own are", x.why(1, 3), 5);
        x.cancel(0);
        due("P10 cancelled ones are none", x.why(1, 3), 0);
        x.take(1, 3);
        x.days(200);
        x.stay(0, 218, 219);
        due("P10 days that are over count", x.why(1, 4), 5);
        x.stay(0, 220, 222);
        due("P10 but not 180 days later", x.why(1, 5), 0);
        x.town(3, 2);
        due("P10 nor if they are in another land now", x.why(1, 4), 0);
    }

    // Promise 10, 6
    private static void termLets() {
        String[] texts = {"1", "0", "0-1", "2", "99999*99999", "0-99999*99999", "(1>2)", "(1<2)"};
        int[] why = {0, 6, 6, 0, 0, 6, 6, 0};
        for (int i = 0; i < texts.length; i++) {
            HouseKeepers x = around();
            x.stay(0, 5, 5);
            Check.feedText(x, texts[i]);
            x.term(0, 0);
            due("P10 term " + texts[i], x.why(0, 0), why[i]);
            due("P11 term " + texts[i], x.take(0, 0), why[i] == 0 ? 1 : -3);
        }
        HouseKeepers x = around();
        x.stay(0, 5, 5);
        due("P10 without one all may", x.why(0, 0), 0);
        Check.feedText(x, "0");
        x.term(0, 1);
        due("P10 from tomorrow on", x.why(0, 0), 0);
        x.days(1);
        due("P10 from today on", x.why(0, 0), 6);
        Check.feedText(x, "1");
        x.term(-1, 1);
        due("P10 its own, not that for all", x.why(0, 0), 6);
    }

    /** One stay that all reasons fit; then they are taken away, the first first. */
    private static void whyOrder() {
        HouseKeepers x = around();
        x.house(1, 1);
        x.stay(10, 9, 12);
        x.stay(0, 6, 7);
        x.stay(2, 10, 11);
        x.take(0, 1);
        x.take(0, 2);
        x.limit(0, 5);
        x.way(0, 1, 240);
        Check.feedText(x, "0");
        x.term(-1, 0);
        due("P10 beasts of the house come first", x.why(0, 0), 2);
        x.keeper(0, 1, 1, 0);
        due("P10 the way comes ahead of the term", x.why(1, 0), 4);
        x.days(9);
        due("P10 begun comes ahead of all", x.why(0, 0), 1);
        x.cancel(0);
        due("P10 not open comes ahead of begun", x.why(0, 0), 9);
        HouseKeepers y = around();
        y.stay(1, 9, 12);
        y.stay(0, 6, 7);
        y.stay(2, 10, 11);
        y.take(0, 1);
        y.take(0, 2);
        y.limit(0, 4);
        y.way(0, 1, 240);
        Check.feedText(y, "0");
        y.term(-1, 0);
        due("P10 clash ahead of the way", y.why(0, 0), 3);
        y.cancel(2);
        due("P10 the way ahead of visa", y.why(0, 0), 4);
        y.way(0, 1, 48);
        due("P10 visa ahead of the term", y.why(0, 0), 5);
        y.limit(0, 6);
        due("P10 the term", y.why(0, 0), 6);
        Check.feedText(y, "1");
        y.term(1, 0);
        due("P10 may", y.why(0, 0), 0);
    }

    // Promise 11
    private static void take() {
        HouseKeepers x = around();
        x.stay(0, 1, 1);
        x.stay(0, 2, 2);
        due("P11 tomorrow", x.take(0, 0), 1);
        due("P11 the day behind", x.take(0, 1), 1);
        due("P11 both", x.count(5), 2);
        due("P11 none is open", x.count(4), 0);
        due("P11 again", x.take(0, 1), -3);
        x.cancel(1);
        due("P11 cancelled", x.take(0, 1), -3);
        x.stay(0, 2, 2);
        x.days(2);
        due("P11 today", x.take(0, 2), -3);
        x.days(1);
        due("P11 over", x.take(0, 2), -3);
        due("P11 refusals", x.count(13), 4);
        HouseKeepers y = around();
        y.stay(0, 1, 1500);
        due("P11 all days", y.take(0, 0), 1);
        HouseKeepers z = around();
        for (int s = 0; s < 60; s++) z.stay(0, 2 * s + 1, 2 * s + 1);
        for (int s = 59; s >= 0; s--) due("P11 sixty", z.take(0, s), 1);
        due("P11 sixty taken", z.count(5), 60);
    }

    // Promise 12
    private static void cancel() {
        HouseKeepers x = around();
        x.keeper(0, 0, 1, 0);
        for (int h = 0; h < 4; h++) x.stay(h, 5, 6);
        x.take(1, 0);
        x.take(0, 1);
        due("P12 ahead of its first day", x.cancel(0), 1);
        x.days(5);
        due("P12 on its first day, keeper 0", x.cancel(1), 0);
        x.days(1);
        due("P12 on its last day, open", x.cancel(2), -9);
        x.days(1);
        due("P12 behind its last day", x.cancel(3), -3);
        due("P12 open still", x.stayOf(3, 3), 0);
        due("P12 who had it", x.stayOf(0, 4), 1);
        due("P12 keeper 0 had it", x.stayOf(1, 4), 0);
        due("P12 nobody had it", x.stayOf(2, 4), -9);
        due("P12 cancelled and over", x.cancel(0), -3);
        due("P12 how many", x.count(6), 3);
        due("P12 none taken", x.count(5), 0);
    }

    // Promise 13
    private static void where() {
        HouseKeepers x = around();
        x.stay(3, 1, 1);
        x.stay(4, 3, 8);
        x.stay(5, 1400, 1499);
        for (int s = 2; s >= 0; s--) x.take(0, s);
        int[] days = {0, 1, 2, 3, 8, 9, 1399, 1400, 1499, 1500};
        int[] towns = {0, 0, 3, 3, 3, 4, 4, 4, 4, 5};
        for (int i = 0; i < days.length; i++) due("P13 on " + days[i], x.where(0, days[i]), towns[i]);
        due("P13 -1", x.where(0, -1), -4);
        due("P13 1501", x.where(0, 1501), -6);
        x.days(1500);
        for (int i = 0; i < days.length; i++) due("P13 later, on " + days[i], x.where(0, days[i]), towns[i]);
        HouseKeepers y = around();
        y.stay(3, 1500, 1500);
        y.take(0, 0);
        due("P13 its last day is not ahead of itself", y.where(0, 1500), 0);
        y.keeper(8, 0, 1, 0);
        due("P13 without one", y.where(1, 1500), 8);
        HouseKeepers z = around();
        z.stay(3, 2, 2);
        due("P13 open ones are none", z.where(0, 9), 0);
        z.take(0, 0);
        due("P13 taken", z.where(0, 9), 3);
        z.cancel(0);
        due("P13 cancelled", z.where(0, 9), 0);
    }
}
