/** The edges of promises 31 to 36: groups, lists before and after, looks, what is gone, claims, counts. */
public final class ListsEdgesTest {
    private static final int ALL = Integer.MAX_VALUE;
    private static final Check C = new Check();

    public static void main(String[] args) {
        alikeByDigits();
        groupsByWayOfOthers();
        groupOfTwenty();
        listDays();
        listItems();
        listStates();
        looks();
        gone();
        claims();
        counts();
        countsOfStays();
        countsOfReviews();
        countsOfRefusals();
        C.finish("ListsEdgesTest");
    }

    private static void due(String what, long got, long want) {
        C.due(what, got, want);
    }

    // Promise 31
    private static void alikeByDigits() {
        int[][] alike = {{0, 0}, {99999, 99999}, {0, 1}, {0, 9}, {0, 10}, {0, 90000}, {99999, 9999}, {12345, 12305},
            {12345, 52345}, {9, 19}, {10, 0}};
        int[][] different = {{0, 11}, {9, 10}, {99, 100}, {0, 99999}, {12345, 12354}, {12345, 21345}, {10000, 1},
            {9999, 10000}, {12345, 1234}};
        for (int[] marks : alike) due("P31 alike " + marks[0] + " " + marks[1], groupOfSecond(marks), 0);
        for (int[] marks : different) due("P31 different " + marks[0] + " " + marks[1], groupOfSecond(marks), 1);
        for (int place = 1; place <= 10000; place *= 10) {
            due("P31 one digit at " + place, groupOfSecond(new int[] {44444, 44444 + 5 * place}), 0);
            due("P31 two digits at " + place, groupOfSecond(new int[] {44444, 44444 + 5 * place - (place == 1 ? 10 : 1)}), 1);
        }
    }

    private static int groupOfSecond(int[] marks) {
        HouseKeepers x = new HouseKeepers();
        x.keeper(0, 0, 1, marks[0]);
        x.keeper(0, 0, 1, marks[1]);
        due("P31 of the first", x.group(0), 0);
        return x.group(1);
    }

    private static void groupsByWayOfOthers() {
        HouseKeepers x = new HouseKeepers();
        x.keeper(0, 0, 1, 11111);
        x.keeper(0, 0, 1, 11199);
        due("P31 alone", x.group(0), 0);
        due("P31 alone, too", x.group(1), 1);
        x.keeper(0, 0, 1, 11119);
        for (int k = 0; k < 3; k++) due("P31 joined", x.group(k), 0);
        x.keeper(0, 0, 1, 55555);
        due("P31 another group", x.group(3), 3);
        due("P31 no keeper 4", x.group(4), -1);
        due("P31 no keeper -1", x.group(-1), -1);
    }

    /** A chain of twenty told so that each is alike to the one told next but for the ends. */
    private static void groupOfTwenty() {
        int[] chain = new int[20];
        for (int i = 1; i < 20; i++) chain[i] = chain[i - 1] + new int[] {1, 10, 100, 1000, 10000}[i % 5];
        HouseKeepers forward = new HouseKeepers();
        HouseKeepers backward = new HouseKeepers();
        HouseKeepers mixed = new HouseKeepers();
        for (int i = 0; i < 20; i++) {
            forward.keeper(0, 0, 1, chain[i]);
            backward.keeper(0, 0, 1, chain[19 - i]);
            mixed.keeper(0, 0, 1, chain[i * 7 % 20]);
        }
        for (int k = 0; k < 20; k++) {
            due("P31 twenty", forward.group(k), 0);
            due("P31 twenty backwards", backward.group(k), 0);
            due("P31 twenty mixed", mixed.group(k), 0);
        }
        due("P31 no keeper 20", forward.group(20), -1);
    }

    /** Keeper 0, house 0, and stay 0 from 5 to 7, taken. */
    private static HouseKeepers taken() {
        HouseKeepers x = new HouseKeepers();
        x.keeper(0, 0, 1, 0);
        x.house(0, 0);
        x.stay(0, 5, 7);
        x.take(0, 0);
        return x;
    }

    private static HouseKeepers takenOn(int day) {
        HouseKeepers x = taken();
        x.days(day);
        return x;
    }

    // Promise 32
    private static void listDays() {
        due("P32 before, on 0", taken().list(0, false, 1), 1);
        int[] days = {1, 4, 5, 6, 7, 8, 1500};
        int[] before = {1, 1, 1, -3, -3, -3, -3};
        int[] after = {-3, -3, -3, -3, -3, 1, 1};
        for (int i = 0; i < days.length; i++) {
            due("P32 before, on " + days[i], takenOn(days[i]).list(0, false, 1), before[i]);
            due("P32 after, on " + days[i], takenOn(days[i]).list(0, true, 1), after[i]);
        }
        HouseKeepers x = new HouseKeepers();
        x.keeper(0, 0, 1, 0);
        x.house(0, 0);
        x.stay(0, 1499, 1499);
        x.stay(0, 1500, 1500);
        x.take(0, 0);
        x.take(0, 1);
        x.days(1500);
        due("P32 before, on the last day", x.list(1, false, 1), 1);
        due("P32 the last day is never over", x.list(1, true, 1), -3);
        due("P32 after, on the last day", x.list(0, true, 1), 1);
        due("P32 too late before", x.list(0, false, 1), -3);
    }

    private static void listItems() {
        HouseKeepers x = taken();
        due("P32 -1", x.list(0, false, -1), -4);
        due("P32 the least int", x.list(0, false, Integer.MIN_VALUE), -4);
        due("P32 no items", x.list(0, false, 0), 1);
        due("P32 all items, another one", x.list(0, false, ALL), 0);
        due("P32 no items, another one", x.list(0, false, 0), 0);
        due("P32 refused once told", x.list(0, false, -1), -4);
        x.list(0, false, ALL);
        x.days(8);
        due("P32 -1 after", x.list(0, true, -1), -4);
        due("P32 no items after", x.list(0, true, 0), 1);
        due("P34 all", x.gone(0), ALL);
        due("P32 all items after, another one", x.list(0, true, ALL), 0);
        due("P34 nothing", x.gone(0), 0);
        due("P32 no items after, another one", x.list(0, true, 0), 0);
        due("P34 all again", x.gone(0), ALL);
    }

    private static void listStates() {
        HouseKeepers x = new HouseKeepers();
        x.keeper(0, 0, 1, 0);
        for (int h = 0; h < 3; h++) x.house(0, 0);
        x.stay(0, 5, 5);
        x.stay(1, 5, 5);
        x.stay(2, 7, 7);
        x.take(0, 1);
        x.list(1, false, 3);
        x.cancel(1);
        x.take(0, 2);
        due("P32 open before", x.list(0, false, 1), -3);
        due("P32 cancelled before", x.list(1, false, 1), -3);
        due("P32 taken before", x.list(2, false, 1), 1);
        x.days(9);
        due("P32 open after", x.list(0, true, 1), -3);
        due("P32 cancelled after", x.list(1, true, 1), -3);
        due("P32 taken after", x.list(2, true, 1), 1);
        due("P34 cancelled: one is told", x.gone(1), -9);
        due("P35 cancelled: one is told", x.claim(1), -3);
        due("P32 no stay 3", x.list(3, true, 1), -1);
        due("P32 no stay -1", x.list(-1, true, 1), -1);
    }

    // Promise 33
    private static void looks() {
        HouseKeepers x = new HouseKeepers();
        due("P33 no house 0", x.look(0, 0, 0), -1);
        x.house(0, 0);
        for (int h = 1; h < 20; h++) x.house(0, 0);
        for (int item = 0; item <= 30; item++) due("P33 1 at first", x.look(0, item, item % 10), 1);
        for (int item = 0; item <= 30; item++) due("P33 1 at first of 19", x.look(19, item, 9 - item % 10), 1);
        for (int item = 0; item <= 30; item++) due("P33 each its own", x.look(0, item, 1), item % 10);
        for (int item = 0; item <= 30; item++) due("P33 each its own of 19", x.look(19, item, 1), 9 - item % 10);
        due("P33 item -1", x.look(0, -1, 1), -4);
        due("P33 item 31", x.look(0, 31, 1), -6);
        due("P33 look -1", x.look(0, 30, -1), -4);
        due("P33 look 10", x.look(0, 30, 10), -6);
        due("P33 the least", x.look(0, 30, 0), 1);
        due("P33 the greatest", x.look(0, 30, 9), 0);
        due("P33 as told", x.look(0, 30, 9), 9);
        due("P33 no house 20", x.look(20, 0, 0), -1);
    }

    // Promise 34
    private static void gone() {
        HouseKeepers x = taken();
        due("P34 none told", x.gone(0), -9);
        x.list(0, false, 0);
        due("P34 a list of nothing is told, but alone", x.gone(0), -9);
        x.days(8);
        x.list(0, true, 0);
        due("P34 nothing of nothing", x.gone(0), 0);
        x.list(0, true, ALL);
        due("P34 what came is not gone", x.gone(0), 0);
        due("P34 no refusals", x.count(11) + x.count(13), 0);
        HouseKeepers y = takenOn(8);
        y.list(0, true, 5);
        due("P34 the list after alone", y.gone(0), -9);
        for (int item = 0; item <= 30; item++) {
            HouseKeepers z = taken();
            z.list(0, false, ALL);
            z.days(8);
            z.list(0, true, ALL - (1 << item));
            due("P34 item " + item, z.gone(0), 1 << item);
            due("P35 item " + item, z.claim(0), 15);
            z.look(0, item, 9);
            due("P35 item " + item + " by its look", z.claim(0), 95);
        }
        due("P34 no stay 1", x.gone(1), -1);
        due("P34 no stay -1", x.gone(-1), -1);
        HouseKeepers open = new HouseKeepers();
        open.house(0, 0);
        open.stay(0, 5, 5);
        due("P34 an open one", open.gone(0), -9);
        due("P35 an open one", open.claim(0), -3);
    }

    // Promise 35
    private static void claims() {
        HouseKeepers x = taken();
        x.house(0, 0);
        for (int item = 0; item <= 30; item++) x.look(1, item, 0);
        x.list(0, false, ALL);
        due("P35 one is told", x.claim(0), -3);
        x.days(8);
        x.list(0, true, 0);
        due("P35 all, looks of 1", x.claim(0), 465);
        for (int item = 0; item <= 30; item++) x.look(0, item, 9);
        due("P35 the greatest", x.claim(0), 31 * 95);
        for (int item = 0; item <= 30; item++) x.look(0, item, 0);
        due("P35 all, looks of 0", x.claim(0), 155);
        x.list(0, true, ALL - 1);
        due("P35 one, look of 0", x.claim(0), 5);
        x.list(0, true, ALL);
        due("P35 nothing is gone", x.claim(0), 0);
        due("P35 no stay 1", x.claim(1), -1);
        due("P35 no stay -1", x.claim(-1), -1);
        due("P35 refusals", x.count(13), 1);
    }

    // Promise 36
    private static void counts() {
        HouseKeepers x = new HouseKeepers();
        due("P36 the least", x.count(0), 0);
        due("P36 the greatest", x.count(18), 0);
        for (int other : new int[] {-1, 19, Integer.MIN_VALUE, Integer.MAX_VALUE}) due("P36 " + other, x.count(other), -9);
        for (int what = 11; what <= 16; what++) due("P36 another what is no refusal", x.count(what), 0);
        for (int i = 0; i < 20; i++) {
            x.keeper(0, 0, 1, 0);
            x.house(0, 0);
        }
        for (int s = 0; s < 60; s++) x.stay(s % 20, 1 + s, 1 + s);
        for (int t = 0; t < 30; t++) {
            x.feed(1, '1');
            x.term(-1, 0);
        }
        for (int i = 0; i < 60; i++) x.feed(1, '1');
        for (int i = 0; i < 12; i++) x.put(0);
        for (int i = 0; i < 6; i++) x.tell(0);
        int[] full = {0, 20, 20, 60, 60, 0, 0, 30, 0, 0, 60, 0, 0, 0, 0, 0, 0, 12, 6};
        for (int what = 0; what < full.length; what++) due("P36 full " + what, x.count(what), full[what]);
        x.days(1500);
        due("P36 the last day", x.count(0), 1500);
        due("P36 open ones that are over", x.count(4), 60);
    }

    private static void countsOfStays() {
        HouseKeepers x = new HouseKeepers();
        x.keeper(0, 0, 1, 0);
        x.house(0, 0);
        for (int s = 0; s < 3; s++) x.stay(0, 5 + s, 5 + s);
        stayCounts(x, 3, 0, 0);
        x.take(0, 0);
        x.take(0, 1);
        stayCounts(x, 1, 2, 0);
        x.cancel(1);
        x.cancel(2);
        stayCounts(x, 0, 1, 2);
        x.days(100);
        stayCounts(x, 0, 1, 2);
        due("P36 all", x.count(3), 3);
    }

    private static void stayCounts(HouseKeepers x, int open, int taken, int cancelled) {
        due("P36 open", x.count(4), open);
        due("P36 taken", x.count(5), taken);
        due("P36 cancelled", x.count(6), cancelled);
    }

    private static void countsOfReviews() {
        HouseKeepers x = takenOn(8);
        x.review(0, true, 3);
        due("P36 told", x.count(8), 1);
        due("P36 shut", x.count(9), 0);
        x.days(13);
        due("P36 shut 14 days behind", x.count(9), 0);
        x.days(1);
        due("P36 counts 15 days behind", x.count(9), 1);
        x.review(0, false, 3);
        due("P36 both told", x.count(8), 2);
        due("P36 both count", x.count(9), 2);
        x.review(0, false, 3);
        due("P36 refused ones are not told", x.count(8), 2);
    }

    private static void countsOfRefusals() {
        HouseKeepers x = new HouseKeepers();
        x.keeper(0, 0, 1, 0);
        for (int i = 0; i < 3; i++) x.trust(9, 0);
        for (int i = 0; i < 4; i++) x.bound(0, 9);
        for (int i = 0; i < 5; i++) x.trust(0, -1);
        for (int i = 0; i < 6; i++) x.trust(0, 9);
        x.tell(0);
        for (int i = 0; i < 7; i++) x.judge();
        int[] want = {3, 4, 7, 5, 0, 6};
        for (int r = 0; r < 6; r++) due("P36 refusals " + (r + 1), x.count(11 + r), want[r]);
        x.group(-1);
        due("P36 one more", x.count(11), 4);
        x.whoElse(-1);
        due("P36 and one more", x.count(11), 5);
    }
}
