import java.util.ArrayList;
import java.util.List;

/**
 * Each refusal of each promise, in the order in which the promise tells them: the number that is
 * answered, that it alone is counted once more, and that nothing else has changed.
 */
public final class RefusalsTest {
    private static final int LEAST = Integer.MIN_VALUE;
    private static final int GREATEST = Integer.MAX_VALUE;
    private static final int FAR = 1000000000;
    private static final Check C = new Check();

    private interface Scene {
        HouseKeepers make();
    }

    private interface Call {
        int on(HouseKeepers x);
    }

    public static void main(String[] args) {
        days();
        townsWaysLimits();
        keepers();
        houses();
        stays();
        stayOf();
        whyAndTake();
        cancel();
        where();
        feed();
        term();
        worth();
        review();
        knownOnADay();
        bound();
        rows();
        chain();
        wish();
        pairJudgePlace();
        whoElseAndGroup();
        lists();
        looks();
        claims();
        C.finish("RefusalsTest");
    }

    /** Answers of calls that show what the object holds; all that is asked stays within 512 calls. */
    private static List<Integer> shown(HouseKeepers x) {
        List<Integer> all = new ArrayList<>();
        int now = x.count(0);
        int keepers = x.count(1);
        int houses = x.count(2);
        int stays = x.count(3);
        for (int what = 0; what <= 10; what++) all.add(x.count(what));
        all.add(x.count(17));
        all.add(x.count(18));
        for (int s = Math.max(0, stays - 9); s < stays; s++) showStay(all, x, s);
        for (int k = Math.max(0, keepers - 3); k < keepers; k++) showKeeper(all, x, k, now);
        for (int h = Math.max(0, houses - 3); h < houses; h++) showHouse(all, x, h, now);
        for (int i = 0; i < 3; i++) all.add(x.pair(i));
        for (int i : new int[] {0, 1, 2, 10, 11}) all.add(x.place(i));
        for (int land = 0; land < 5; land++) all.add(x.limit(land, 180));
        for (int t = 0; t < 10; t++) all.add(x.town(t, 0));
        for (int t = 0; t < 30; t++) all.add(x.way(t % 10, (t + 1 + t / 10) % 10, 24));
        all.add(x.tell(2));
        all.add(x.judge());
        all.add(x.unput());
        all.add(x.term(-1, now));
        all.add(x.feed(1, '1'));
        all.add(x.worth(0, 3));
        all.add(x.keeper(0, 0, 1, 0));
        all.add(x.house(0, 0));
        all.add(x.stay(0, 1400, 1400));
        return all;
    }

    private static void showStay(List<Integer> all, HouseKeepers x, int s) {
        for (int what = 0; what <= 5; what++) all.add(x.stayOf(s, what));
        all.add(x.whoElse(s));
        all.add(x.gone(s));
        for (int k = 0; k < 3; k++) all.add(x.why(k, s));
    }

    private static void showKeeper(List<Integer> all, HouseKeepers x, int k, int now) {
        all.add(x.where(k, now));
        all.add(x.where(k, 1500));
        all.add(x.trust(k, now));
        all.add(x.trust(k, now / 2));
        all.add(x.bound(k, 0));
        all.add(x.group(k));
        all.add(x.chain(k, 0));
        all.add(x.chain(k, 1));
        for (int land = 0; land < 5; land++) all.add(x.wish(k, land, 1));
    }

    private static void showHouse(List<Integer> all, HouseKeepers x, int h, int now) {
        all.add(x.hand(h, now));
        all.add(x.stars(h, now));
        for (int item : new int[] {0, 1, 2, 15, 30}) all.add(x.look(h, item, 1));
    }

    private static void refused(String name, Scene scene, int want, Call call) {
        HouseKeepers x = scene.make();
        int number = want > 0 ? FAR - want : want;
        int[] before = new int[7];
        for (int r = 1; r <= 6; r++) before[r] = x.count(10 + r);
        C.due(name, call.on(x), want);
        for (int r = 1; r <= 6; r++) {
            C.due(name + ", refusals -" + r, x.count(10 + r), before[r] + (r == -number ? 1 : 0));
        }
        C.due(name + ", nothing changes", shown(x).equals(shown(scene.make())) ? 1 : 0, 1);
    }

    private static void refused(String name, int want, Call call) {
        refused(name, RefusalsTest::busy, want, call);
    }

    /**
     * On day 8. Keepers 0, 1, 2; houses 0, 1, 2. Stays: 0 taken by 0, over, reviewed both ways, both
     * lists; 1 taken by 1, over, one review, the list before; 2 open, over; 3, 4, 5 open; 6 taken by
     * 0; 7 cancelled, keeper 1 had it; 8 cancelled, nobody had it. The tape has "2*p", the row stays
     * 3, 4 and 5, the row of keepers 0 and 1.
     */
    private static HouseKeepers busy() {
        HouseKeepers x = new HouseKeepers();
        x.town(1, 1);
        x.town(2, 2);
        x.way(0, 1, 30);
        x.way(1, 2, 50);
        x.limit(1, 40);
        x.keeper(0, 255, 1, 12345);
        x.keeper(1, 255, 2, 12346);
        x.keeper(2, 3, 1, 99999);
        for (int h = 0; h < 3; h++) x.house(h, h);
        x.stay(0, 2, 3);
        x.stay(1, 5, 6);
        x.stay(2, 5, 6);
        x.stay(0, 30, 32);
        x.stay(1, 30, 34);
        x.stay(2, 40, 44);
        x.stay(0, 50, 52);
        x.stay(1, 60, 61);
        x.stay(2, 70, 70);
        x.take(0, 0);
        x.take(1, 1);
        x.take(0, 6);
        x.take(1, 7);
        x.cancel(7);
        x.cancel(8);
        x.list(0, false, 7);
        x.list(1, false, 3);
        x.days(8);
        x.review(0, true, 5);
        x.review(0, false, 4);
        x.review(1, true, 2);
        x.list(0, true, 1);
        x.look(0, 1, 9);
        x.wish(0, 1, 7);
        x.wish(1, 2, 8);
        tellTerm(x, "3-p", -1, 8);
        tellTerm(x, "k+1", 1, 20);
        Check.feedText(x, "2*p");
        for (int s = 3; s <= 5; s++) x.put(s);
        x.tell(0);
        x.tell(1);
        return x;
    }

    private static void tellTerm(HouseKeepers x, String text, int house, int day) {
        Check.feedText(x, text);
        x.term(house, day);
    }

    private static HouseKeepers lastDay() {
        HouseKeepers x = busy();
        x.days(1492);
        return x;
    }

    private static void days() {
        refused("P2 0", -4, x -> x.days(0));
        refused("P2 -1", -4, x -> x.days(-1));
        refused("P2 least", -4, x -> x.days(LEAST));
        refused("P2 to 1501", -6, x -> x.days(1493));
        refused("P2 greatest", -6, x -> x.days(GREATEST));
        refused("P2 near the greatest", -6, x -> x.days(GREATEST - 7));
        refused("P2 behind the last day", RefusalsTest::lastDay, -6, x -> x.days(1));
        refused("P2 none on the last day", RefusalsTest::lastDay, -4, x -> x.days(0));
    }

    private static void townsWaysLimits() {
        for (int wrong : new int[] {-1, 10, LEAST, GREATEST}) {
            refused("P3 town " + wrong, -1, x -> x.town(wrong, 3));
            refused("P4 a " + wrong, -1, x -> x.way(wrong, 1, 0));
            refused("P4 b " + wrong, -1, x -> x.way(1, wrong, 241));
            refused("P4 one that is none " + wrong, -1, x -> x.way(wrong, wrong, 5));
        }
        for (int wrong : new int[] {-1, 5, LEAST, GREATEST}) {
            refused("P3 land " + wrong, -1, x -> x.town(1, wrong));
            refused("P5 land " + wrong, -1, x -> x.limit(wrong, 7));
            refused("P5 land ahead of below " + wrong, -1, x -> x.limit(wrong, -1));
            refused("P5 land ahead of above " + wrong, -1, x -> x.limit(wrong, 181));
        }
        for (int town = 0; town < 10; town++) {
            int one = town;
            refused("P4 one " + one, -1, x -> x.way(one, one, 24));
        }
        refused("P4 one ahead of below", -1, x -> x.way(3, 3, 0));
        refused("P4 one ahead of above", -1, x -> x.way(3, 3, 241));
        for (int below : new int[] {0, -1, LEAST}) refused("P4 " + below, -4, x -> x.way(0, 1, below));
        for (int above : new int[] {241, GREATEST}) refused("P4 " + above, -6, x -> x.way(0, 1, above));
        for (int below : new int[] {-1, LEAST}) refused("P5 " + below, -4, x -> x.limit(1, below));
        for (int above : new int[] {181, GREATEST}) refused("P5 " + above, -6, x -> x.limit(1, above));
    }

    private static HouseKeepers fullOfKeepers() {
        HouseKeepers x = busy();
        for (int k = 3; k < 20; k++) x.keeper(k % 10, 255, 2, 11111 * (k % 10));
        return x;
    }

    private static void keepers() {
        for (int wrong : new int[] {-1, 10, LEAST, GREATEST}) {
            refused("P6 town " + wrong, -1, x -> x.keeper(wrong, 1, 1, 1));
        }
        refused("P6 town ahead of below", -1, x -> x.keeper(10, -1, 0, -1));
        refused("P6 town ahead of above", -1, x -> x.keeper(-1, 256, 3, 100000));
        for (int below : new int[] {-1, LEAST}) {
            refused("P6 beasts " + below, -4, x -> x.keeper(0, below, 1, 0));
            refused("P6 marks " + below, -4, x -> x.keeper(0, 0, 1, below));
            refused("P6 beasts below ahead of others above " + below, -4, x -> x.keeper(0, below, 3, 100000));
            refused("P6 marks below ahead of others above " + below, -4, x -> x.keeper(0, 256, 3, below));
        }
        for (int below : new int[] {0, -1, LEAST}) {
            refused("P6 persons " + below, -4, x -> x.keeper(0, 0, below, 0));
            refused("P6 persons below ahead of others above " + below, -4, x -> x.keeper(0, 256, below, 100000));
        }
        for (int above : new int[] {256, GREATEST}) refused("P6 beasts " + above, -6, x -> x.keeper(0, above, 1, 0));
        for (int above : new int[] {3, GREATEST}) refused("P6 persons " + above, -6, x -> x.keeper(0, 0, above, 0));
        for (int above : new int[] {100000, GREATEST}) refused("P6 marks " + above, -6, x -> x.keeper(0, 0, 1, above));
        refused("P6 a 21st", RefusalsTest::fullOfKeepers, -6, x -> x.keeper(0, 0, 1, 0));
        refused("P6 full, no town", RefusalsTest::fullOfKeepers, -1, x -> x.keeper(10, 0, 1, 0));
        refused("P6 full, below", RefusalsTest::fullOfKeepers, -4, x -> x.keeper(0, 0, 0, 0));
        refused("P6 full, above", RefusalsTest::fullOfKeepers, -6, x -> x.keeper(0, 0, 3, 0));
    }

    private static HouseKeepers fullOfHouses() {
        HouseKeepers x = busy();
        for (int h = 3; h < 20; h++) x.house(h % 10, h);
        return x;
    }

    private static void houses() {
        for (int wrong : new int[] {-1, 10, LEAST, GREATEST}) refused("P7 town " + wrong, -1, x -> x.house(wrong, 1));
        refused("P7 town ahead of below", -1, x -> x.house(10, -1));
        refused("P7 town ahead of above", -1, x -> x.house(-1, 256));
        for (int below : new int[] {-1, LEAST}) refused("P7 beasts " + below, -4, x -> x.house(0, below));
        for (int above : new int[] {256, GREATEST}) refused("P7 beasts " + above, -6, x -> x.house(0, above));
        refused("P7 a 21st", RefusalsTest::fullOfHouses, -6, x -> x.house(0, 0));
        refused("P7 full, no town", RefusalsTest::fullOfHouses, -1, x -> x.house(10, 0));
        refused("P7 full, below", RefusalsTest::fullOfHouses, -4, x -> x.house(0, -1));
    }

    private static HouseKeepers fullOfStays() {
        HouseKeepers x = busy();
        for (int s = 9; s < 60; s++) x.stay(s % 3, 100 + s, 100 + s);
        return x;
    }

    private static void stays() {
        for (int wrong : new int[] {-1, 3, 20, LEAST, GREATEST}) {
            refused("P8 house " + wrong, -1, x -> x.stay(wrong, 9, 9));
            refused("P8 house ahead of below " + wrong, -1, x -> x.stay(wrong, 8, 7));
            refused("P8 house ahead of above " + wrong, -1, x -> x.stay(wrong, 9, 1501));
        }
        for (int from : new int[] {8, 7, 0, -1, LEAST}) refused("P8 from " + from, -4, x -> x.stay(0, from, 9));
        refused("P8 to the day ahead of from", -4, x -> x.stay(0, 20, 19));
        refused("P8 to far ahead of from", -4, x -> x.stay(0, 20, LEAST));
        refused("P8 from now, ahead of to above", -4, x -> x.stay(0, 8, 1501));
        refused("P8 to ahead of from, both above", -4, x -> x.stay(0, 1502, 1501));
        refused("P8 to ahead of from, from above alone", -4, x -> x.stay(0, 1501, 1500));
        refused("P8 to ahead of from, the greatest", -4, x -> x.stay(0, GREATEST, 9));
        refused("P8 to below ahead of another one", -4, x -> x.stay(0, 31, 30));
        refused("P8 to 1501", -6, x -> x.stay(0, 1500, 1501));
        refused("P8 both 1501", -6, x -> x.stay(0, 1501, 1501));
        refused("P8 to the greatest", -6, x -> x.stay(0, 9, GREATEST));
        refused("P8 both the greatest", -6, x -> x.stay(0, GREATEST, GREATEST));
        refused("P8 above ahead of another one", -6, x -> x.stay(0, 30, 1501));
        refused("P8 on the last day", RefusalsTest::lastDay, -6, x -> x.stay(0, 1501, 1501));
        refused("P8 the last day itself", RefusalsTest::lastDay, -4, x -> x.stay(0, 1500, 1500));
        int[][] on = {{30, 32}, {30, 30}, {32, 32}, {31, 31}, {29, 30}, {32, 33}, {29, 33}, {9, 30}, {32, 49}, {9, 1500}};
        for (int[] days : on) refused("P8 an open one " + days[0], -3, x -> x.stay(0, days[0], days[1]));
        int[][] onTaken = {{50, 52}, {49, 50}, {52, 53}, {51, 51}, {49, 53}};
        for (int[] days : onTaken) refused("P8 a taken one " + days[0], -3, x -> x.stay(0, days[0], days[1]));
        refused("P8 a 61st", RefusalsTest::fullOfStays, -6, x -> x.stay(0, 1000, 1000));
        refused("P8 full, no house", RefusalsTest::fullOfStays, -1, x -> x.stay(3, 1000, 1000));
        refused("P8 full, below", RefusalsTest::fullOfStays, -4, x -> x.stay(0, 1000, 999));
        refused("P8 full ahead of another one", RefusalsTest::fullOfStays, -6, x -> x.stay(0, 30, 30));
    }

    private static void stayOf() {
        for (int wrong : new int[] {-1, 9, 60, LEAST, GREATEST}) {
            refused("P9 stay " + wrong, -1, x -> x.stayOf(wrong, 0));
            refused("P9 stay ahead of other " + wrong, -1, x -> x.stayOf(wrong, 6));
            refused("P9 stay ahead of other below " + wrong, -1, x -> x.stayOf(wrong, -1));
        }
        for (int other : new int[] {-1, 6, LEAST, GREATEST}) refused("P9 what " + other, -2, x -> x.stayOf(0, other));
        refused("P9 full", RefusalsTest::fullOfStays, -1, x -> x.stayOf(60, 0));
    }

    private static void whyAndTake() {
        for (int wrong : new int[] {-1, 3, 20, LEAST, GREATEST}) {
            refused("P10 keeper " + wrong, -1, x -> x.why(wrong, 3));
            refused("P10 keeper, of a stay that is not open " + wrong, -1, x -> x.why(wrong, 7));
            refused("P11 keeper " + wrong, -1, x -> x.take(wrong, 3));
            refused("P11 keeper ahead of state " + wrong, -1, x -> x.take(wrong, 7));
        }
        for (int wrong : new int[] {-1, 9, 60, LEAST, GREATEST}) {
            refused("P10 stay " + wrong, -1, x -> x.why(0, wrong));
            refused("P11 stay " + wrong, -1, x -> x.take(0, wrong));
        }
        refused("P11 begun", -3, x -> x.take(0, 2));
        refused("P11 beasts", RefusalsTest::strangeBeasts, -3, x -> x.take(2, 9));
        refused("P11 clash", RefusalsTest::clash, -3, x -> x.take(0, 9));
        refused("P11 way", RefusalsTest::farAway, -3, x -> x.take(1, 9));
        refused("P11 visa", RefusalsTest::shortVisa, -3, x -> x.take(0, 4));
        refused("P11 term", RefusalsTest::termForbids, -3, x -> x.take(0, 3));
        refused("P11 taken by oneself", -3, x -> x.take(0, 6));
        refused("P11 taken by another", -3, x -> x.take(1, 6));
        refused("P11 cancelled that one had", -3, x -> x.take(1, 7));
        refused("P11 cancelled", -3, x -> x.take(0, 8));
    }

    private static HouseKeepers strangeBeasts() {
        HouseKeepers x = busy();
        x.house(2, 4);
        x.stay(3, 80, 81);
        C.due("P10 beasts", x.why(2, 9), 2);
        return x;
    }

    private static HouseKeepers clash() {
        HouseKeepers x = busy();
        x.stay(1, 52, 53);
        C.due("P10 clash", x.why(0, 9), 3);
        return x;
    }

    private static HouseKeepers farAway() {
        HouseKeepers x = busy();
        x.stay(2, 8 + 1, 8 + 1);
        x.way(1, 2, 240);
        C.due("P10 way", x.why(1, 9), 4);
        return x;
    }

    private static HouseKeepers shortVisa() {
        HouseKeepers x = busy();
        x.limit(1, 4);
        C.due("P10 visa", x.why(0, 4), 5);
        return x;
    }

    private static HouseKeepers termForbids() {
        HouseKeepers x = busy();
        x.term(1, 9);
        tellTerm(x, "0", 0, 8);
        C.due("P10 term", x.why(0, 3), 6);
        Check.feedText(x, "2*p");
        return x;
    }

    private static void cancel() {
        for (int wrong : new int[] {-1, 9, 60, LEAST, GREATEST}) refused("P12 stay " + wrong, -1, x -> x.cancel(wrong));
        refused("P12 taken and over", -3, x -> x.cancel(0));
        refused("P12 open and over", -3, x -> x.cancel(2));
        refused("P12 cancelled that was taken", -3, x -> x.cancel(7));
        refused("P12 cancelled that was open", -3, x -> x.cancel(8));
        refused("P12 cancelled and over", RefusalsTest::lastDay, -3, x -> x.cancel(8));
    }

    private static void where() {
        for (int wrong : new int[] {-1, 3, 20, LEAST, GREATEST}) {
            refused("P13 keeper " + wrong, -1, x -> x.where(wrong, 8));
            refused("P13 keeper ahead of below " + wrong, -1, x -> x.where(wrong, -1));
            refused("P13 keeper ahead of above " + wrong, -1, x -> x.where(wrong, 1501));
        }
        for (int below : new int[] {-1, LEAST}) refused("P13 day " + below, -4, x -> x.where(0, below));
        for (int above : new int[] {1501, GREATEST}) refused("P13 day " + above, -6, x -> x.where(0, above));
    }

    private static HouseKeepers nearlyFullTape() {
        HouseKeepers x = busy();
        for (int i = 0; i < 7; i++) x.feed(7, 0x2a702a702a702aL);
        return x;
    }

    private static HouseKeepers fullTape() {
        HouseKeepers x = nearlyFullTape();
        x.feed(8, 0x2a702a702a702a70L);
        return x;
    }

    private static void feed() {
        for (int below : new int[] {0, -1, -8, LEAST}) refused("P14 " + below, -4, x -> x.feed(below, 49));
        for (int above : new int[] {9, 60, 61, GREATEST}) refused("P14 " + above, -6, x -> x.feed(above, 49));
        Scene nearly = () -> {
            HouseKeepers x = nearlyFullTape();
            x.feed(1, '*');
            return x;
        };
        refused("P14 53 and 8", nearly, -6, x -> x.feed(8, 0));
        refused("P14 60 and 1", RefusalsTest::fullTape, -6, x -> x.feed(1, '1'));
        refused("P14 60 and 8", RefusalsTest::fullTape, -6, x -> x.feed(8, '1'));
        refused("P14 60, below", RefusalsTest::fullTape, -4, x -> x.feed(0, '1'));
    }

    private static HouseKeepers fullOfTerms() {
        HouseKeepers x = busy();
        x.term(0, 1500);
        for (int t = 3; t < 30; t++) tellTerm(x, "k+2", t % 4 - 1, 1000 + t);
        Check.feedText(x, "2*p");
        return x;
    }

    private static void term() {
        for (int wrong : new int[] {-2, 3, 20, LEAST, GREATEST}) {
            refused("P15 house " + wrong, -1, x -> x.term(wrong, 8));
            refused("P15 house ahead of below " + wrong, -1, x -> x.term(wrong, 7));
            refused("P15 house ahead of above " + wrong, -1, x -> x.term(wrong, 1501));
        }
        for (int below : new int[] {7, 0, -1, LEAST}) {
            refused("P15 day " + below, -4, x -> x.term(0, below));
            refused("P15 day of all " + below, -4, x -> x.term(-1, below));
        }
        for (int above : new int[] {1501, GREATEST}) {
            refused("P15 day " + above, -6, x -> x.term(0, above));
            refused("P15 day of all " + above, -6, x -> x.term(-1, above));
        }
        refused("P15 a 31st", RefusalsTest::fullOfTerms, -6, x -> x.term(0, 8));
        refused("P15 a 31st of all", RefusalsTest::fullOfTerms, -6, x -> x.term(-1, 8));
        refused("P15 full, no house", RefusalsTest::fullOfTerms, -1, x -> x.term(3, 8));
        refused("P15 full, below", RefusalsTest::fullOfTerms, -4, x -> x.term(0, 7));
        Scene fullAndFaulty = () -> {
            HouseKeepers x = fullOfTerms();
            x.feed(1, '+');
            return x;
        };
        refused("P15 full ahead of a fault", fullAndFaulty, -6, x -> x.term(0, 8));
        Scene faulty = () -> {
            HouseKeepers x = busy();
            x.feed(1, '+');
            return x;
        };
        refused("P15 no house ahead of a fault", faulty, -1, x -> x.term(3, 8));
        refused("P15 below ahead of a fault", faulty, -4, x -> x.term(0, 7));
        refused("P15 above ahead of a fault", faulty, -6, x -> x.term(0, 1501));
    }

    private static void worth() {
        for (int wrong : new int[] {-1, 3, 20, LEAST, GREATEST}) {
            refused("P16 keeper " + wrong, FAR + 1, x -> x.worth(wrong, 3));
        }
        for (int wrong : new int[] {-1, 9, 60, LEAST, GREATEST}) {
            refused("P16 stay " + wrong, FAR + 1, x -> x.worth(0, wrong));
        }
        refused("P16 neither", FAR + 1, x -> x.worth(-1, -1));
    }

    private static HouseKeepers onDay(int day) {
        HouseKeepers x = busy();
        x.days(day - 8);
        return x;
    }

    private static void review() {
        for (boolean ofKeeper : new boolean[] {true, false}) {
            for (int wrong : new int[] {-1, 9, 60, LEAST, GREATEST}) {
                refused("P17 stay " + wrong, -1, x -> x.review(wrong, ofKeeper, 3));
                refused("P17 stay ahead of below " + wrong, -1, x -> x.review(wrong, ofKeeper, 0));
            }
            for (int stars : new int[] {3, 0, 6}) {
                refused("P17 open and over", -3, x -> x.review(2, ofKeeper, stars));
                refused("P17 open", -3, x -> x.review(3, ofKeeper, stars));
                refused("P17 not over", -3, x -> x.review(6, ofKeeper, stars));
                refused("P17 not over on its last day", () -> onDay(52), -3, x -> x.review(6, ofKeeper, stars));
                refused("P17 cancelled", -3, x -> x.review(7, ofKeeper, stars));
                refused("P17 cancelled and over", () -> onDay(65), -3, x -> x.review(7, ofKeeper, stars));
                refused("P17 told", -3, x -> x.review(0, ofKeeper, stars));
                refused("P17 31 days behind", () -> onDay(83), -3, x -> x.review(6, ofKeeper, stars));
                refused("P17 far behind", RefusalsTest::lastDay, -3, x -> x.review(6, ofKeeper, stars));
            }
            for (int below : new int[] {0, -1, LEAST}) {
                refused("P17 stars " + below, () -> onDay(53), -4, x -> x.review(6, ofKeeper, below));
            }
            for (int above : new int[] {6, GREATEST}) {
                refused("P17 stars " + above, () -> onDay(82), -6, x -> x.review(6, ofKeeper, above));
            }
        }
        refused("P17 told, still shut", -3, x -> x.review(1, true, 3));
        refused("P17 the other one below", -4, x -> x.review(1, false, 0));
        refused("P17 the other one above", -6, x -> x.review(1, false, 6));
    }

    private static void knownOnADay() {
        for (int wrong : new int[] {-1, 3, 20, LEAST, GREATEST}) {
            for (int k : new int[] {8, -1, 9}) {
                refused("P18 house " + wrong, -1, x -> x.hand(wrong, k));
                refused("P19 keeper " + wrong, FAR + 1, x -> x.trust(wrong, k));
                refused("P21 house " + wrong, -1, x -> x.stars(wrong, k));
            }
        }
        for (int below : new int[] {-1, LEAST}) {
            refused("P18 K " + below, -4, x -> x.hand(0, below));
            refused("P19 K " + below, FAR + 4, x -> x.trust(0, below));
            refused("P21 K " + below, -4, x -> x.stars(0, below));
        }
        for (int above : new int[] {9, 1500, 1501, GREATEST}) {
            refused("P18 K " + above, -6, x -> x.hand(0, above));
            refused("P19 K " + above, FAR + 6, x -> x.trust(0, above));
            refused("P21 K " + above, -6, x -> x.stars(0, above));
        }
    }

    private static void bound() {
        for (int wrong : new int[] {-1, 3, 20, LEAST, GREATEST}) {
            refused("P20 keeper " + wrong, FAR + 1, x -> x.bound(wrong, 0));
            refused("P20 keeper ahead of other " + wrong, FAR + 1, x -> x.bound(wrong, 2));
        }
        for (int other : new int[] {-1, 2, LEAST, GREATEST}) refused("P20 what " + other, FAR + 2, x -> x.bound(0, other));
    }

    private static HouseKeepers fullRow() {
        HouseKeepers x = busy();
        for (int i = 3; i < 12; i++) x.put(i % 2 == 0 ? -1 : 99);
        return x;
    }

    private static HouseKeepers fullTold() {
        HouseKeepers x = busy();
        for (int i = 2; i < 6; i++) x.tell(i % 2 == 0 ? -1 : 99);
        return x;
    }

    private static void rows() {
        for (int below : new int[] {-2, LEAST}) {
            refused("P22 " + below, -4, x -> x.put(below));
            refused("P27 " + below, -4, x -> x.tell(below));
            refused("P22 full, " + below, RefusalsTest::fullRow, -4, x -> x.put(below));
            refused("P27 full, " + below, RefusalsTest::fullTold, -4, x -> x.tell(below));
        }
        for (int above : new int[] {100, GREATEST}) {
            refused("P22 " + above, -6, x -> x.put(above));
            refused("P27 " + above, -6, x -> x.tell(above));
            refused("P22 full, " + above, RefusalsTest::fullRow, -6, x -> x.put(above));
            refused("P27 full, " + above, RefusalsTest::fullTold, -6, x -> x.tell(above));
        }
        for (int fine : new int[] {-1, 0, 99}) {
            refused("P22 a 13th " + fine, RefusalsTest::fullRow, -6, x -> x.put(fine));
            refused("P27 a 7th " + fine, RefusalsTest::fullTold, -6, x -> x.tell(fine));
        }
    }

    /** The busy scene with another row, behind twelve more stays 9 .. 20 that are open. */
    private static HouseKeepers rowOf(int... stays) {
        HouseKeepers x = busy();
        for (int s = 9; s <= 20; s++) x.stay(s % 3, 200 + s, 200 + s);
        x.unput();
        for (int stay : stays) x.put(stay);
        return x;
    }

    private static void chain() {
        for (int wrong : new int[] {-1, 3, 20, LEAST, GREATEST}) {
            refused("P24 keeper " + wrong, -1, x -> x.chain(wrong, 0));
            refused("P24 keeper ahead of other " + wrong, -1, x -> x.chain(wrong, 2));
            refused("P24 keeper ahead of state " + wrong, () -> rowOf(6, 6), -1, x -> x.chain(wrong, 0));
        }
        for (int what : new int[] {0, 1, 2}) {
            for (int wrong : new int[] {-1, 21, 60, 99}) {
                refused("P24 row has " + wrong, () -> rowOf(wrong), -1, x -> x.chain(0, what));
                refused("P24 row ends with " + wrong, () -> rowOf(6, 6, 3, wrong), -1, x -> x.chain(0, what));
                refused("P24 row of eleven and " + wrong,
                    () -> rowOf(3, 4, 5, 9, 10, 11, 12, 13, 14, 15, 16, wrong), -1, x -> x.chain(0, what));
            }
        }
        for (int other : new int[] {-1, 2, LEAST, GREATEST}) {
            refused("P24 what " + other, -2, x -> x.chain(0, other));
            refused("P24 what, empty row " + other, () -> rowOf(), -2, x -> x.chain(0, other));
            refused("P24 what ahead of state " + other, () -> rowOf(6), -2, x -> x.chain(0, other));
            refused("P24 what ahead of above " + other,
                () -> rowOf(3, 4, 5, 9, 10, 11, 12, 13, 14, 15, 16), -2, x -> x.chain(0, other));
        }
        for (int what : new int[] {0, 1}) {
            for (int notOpen : new int[] {0, 6, 7, 8}) {
                refused("P24 not open " + notOpen, () -> rowOf(notOpen), -3, x -> x.chain(0, what));
                refused("P24 not open at the end " + notOpen, () -> rowOf(3, 4, notOpen), -3, x -> x.chain(0, what));
            }
            refused("P24 twice", () -> rowOf(3, 3), -3, x -> x.chain(0, what));
            refused("P24 twice, apart", () -> rowOf(3, 4, 5, 3), -3, x -> x.chain(0, what));
            refused("P24 twice ahead of above",
                () -> rowOf(3, 4, 5, 9, 10, 11, 12, 13, 14, 15, 15), -3, x -> x.chain(0, what));
            refused("P24 not open ahead of above",
                () -> rowOf(3, 4, 5, 9, 10, 11, 12, 13, 14, 15, 16, 6), -3, x -> x.chain(0, what));
            refused("P24 eleven", () -> rowOf(3, 4, 5, 9, 10, 11, 12, 13, 14, 15, 16), -6, x -> x.chain(0, what));
            refused("P24 twelve", () -> rowOf(3, 4, 5, 9, 10, 11, 12, 13, 14, 15, 16, 17), -6, x -> x.chain(0, what));
        }
    }

    private static void wish() {
        for (int v : new int[] {5, -1, 100}) {
            for (int wrong : new int[] {-1, 3, 20, LEAST, GREATEST}) {
                refused("P25 keeper " + wrong, -1, x -> x.wish(wrong, 1, v));
            }
            for (int wrong : new int[] {-1, 5, LEAST, GREATEST}) refused("P25 land " + wrong, -1, x -> x.wish(0, wrong, v));
        }
        for (int below : new int[] {-1, LEAST}) refused("P25 " + below, -4, x -> x.wish(0, 1, below));
        for (int above : new int[] {100, GREATEST}) refused("P25 " + above, -6, x -> x.wish(0, 1, above));
    }

    private static void pairJudgePlace() {
        for (int wrong : new int[] {-1, 21, 60, 99}) {
            rowRefused("row has " + wrong, -1, wrong);
            rowRefused("row ends with " + wrong, -1, 6, 3, 3, wrong);
            rowRefused("seven and " + wrong, -1, 3, 4, 5, 9, 10, 11, wrong);
        }
        for (int notOpen : new int[] {0, 6, 7, 8}) {
            rowRefused("not open " + notOpen, -3, notOpen);
            rowRefused("not open at the end " + notOpen, -3, 3, 4, notOpen);
            rowRefused("not open ahead of above " + notOpen, -3, 3, 4, 5, 9, 10, 11, notOpen);
        }
        rowRefused("twice", -3, 3, 3);
        rowRefused("twice, apart", -3, 3, 4, 5, 3);
        rowRefused("twice ahead of above", -3, 3, 4, 5, 9, 10, 11, 3);
        rowRefused("seven", -6, 3, 4, 5, 9, 10, 11, 12);
        rowRefused("twelve", -6, 3, 4, 5, 9, 10, 11, 12, 13, 14, 15, 16, 17);
        for (int i : new int[] {-1, 3, 6, 12, LEAST, GREATEST}) {
            refused("P26 place " + i, -2, x -> x.pair(i));
            refused("P30 place " + i, -2, x -> x.place(i));
        }
        for (int i : new int[] {10, 11}) refused("P26 place " + i, -2, x -> x.pair(i));
        for (int i = 0; i < 10; i++) {
            int at = i;
            refused("P26 empty row " + i, () -> rowOf(), -2, x -> x.pair(at));
            refused("P30 empty row " + i, () -> rowOf(), -2, x -> x.place(at));
        }
        refused("P26 six, a seventh place", () -> rowOf(3, 4, 5, 9, 10, 11), -2, x -> x.pair(6));
        for (int i : new int[] {6, 7, 8, 9, 12}) {
            refused("P30 six, place " + i, () -> rowOf(3, 4, 5, 9, 10, 11), -2, x -> x.place(i));
        }
        refused("P28 two for three", -3, x -> x.judge());
        refused("P28 two for one", () -> rowOf(3), -3, x -> x.judge());
        refused("P28 two for none", () -> rowOf(), -3, x -> x.judge());
        refused("P28 six for five", () -> {
            HouseKeepers x = rowOf(3, 4, 5, 9, 10);
            for (int i = 0; i < 4; i++) x.tell(-1);
            return x;
        }, -3, x -> x.judge());
    }

    private static void rowRefused(String why, int want, int... stays) {
        for (int i : new int[] {0, -1, 10, 77}) {
            refused("P26 " + why, () -> rowOf(stays), want, x -> x.pair(i));
            refused("P30 " + why, () -> rowOf(stays), want, x -> x.place(i));
        }
        refused("P28 " + why, () -> rowOf(stays), want, x -> x.judge());
    }

    private static void whoElseAndGroup() {
        for (int wrong : new int[] {-1, 9, 60, LEAST, GREATEST}) refused("P29 stay " + wrong, -1, x -> x.whoElse(wrong));
        for (int wrong : new int[] {-1, 3, 20, LEAST, GREATEST}) refused("P31 keeper " + wrong, -1, x -> x.group(wrong));
    }

    private static void lists() {
        for (boolean after : new boolean[] {true, false}) {
            for (int items : new int[] {5, -1}) {
                for (int wrong : new int[] {-1, 9, 60, LEAST, GREATEST}) {
                    refused("P32 stay " + wrong, -1, x -> x.list(wrong, after, items));
                }
                refused("P32 open", -3, x -> x.list(3, after, items));
                refused("P32 open and over", -3, x -> x.list(2, after, items));
                refused("P32 cancelled", -3, x -> x.list(7, after, items));
                refused("P32 cancelled and over", () -> onDay(65), -3, x -> x.list(7, after, items));
                refused("P32 in between", () -> onDay(51), -3, x -> x.list(6, after, items));
                refused("P32 on its last day", () -> onDay(52), -3, x -> x.list(6, after, items));
            }
        }
        for (int items : new int[] {5, -1}) {
            refused("P32 before, over", -3, x -> x.list(0, false, items));
            refused("P32 after, not begun", -3, x -> x.list(6, true, items));
            refused("P32 after, on its first day", () -> onDay(50), -3, x -> x.list(6, true, items));
        }
        for (int below : new int[] {-1, LEAST}) {
            refused("P32 before " + below, -4, x -> x.list(6, false, below));
            refused("P32 before, on its first day " + below, () -> onDay(50), -4, x -> x.list(6, false, below));
            refused("P32 after " + below, -4, x -> x.list(0, true, below));
            refused("P32 after, none told " + below, -4, x -> x.list(1, true, below));
        }
    }

    private static void looks() {
        for (int wrong : new int[] {-1, 3, 20, LEAST, GREATEST}) {
            refused("P33 house " + wrong, -1, x -> x.look(wrong, 0, 0));
            refused("P33 house ahead of below " + wrong, -1, x -> x.look(wrong, -1, -1));
            refused("P33 house ahead of above " + wrong, -1, x -> x.look(wrong, 31, 10));
        }
        for (int below : new int[] {-1, LEAST}) {
            refused("P33 item " + below, -4, x -> x.look(0, below, 5));
            refused("P33 item below ahead of above " + below, -4, x -> x.look(0, below, 10));
            refused("P33 look " + below, -4, x -> x.look(0, 1, below));
            refused("P33 look below ahead of item above " + below, -4, x -> x.look(0, 31, below));
        }
        for (int above : new int[] {31, 32, GREATEST}) refused("P33 item " + above, -6, x -> x.look(0, above, 5));
        for (int above : new int[] {10, GREATEST}) refused("P33 look " + above, -6, x -> x.look(0, 1, above));
    }

    private static void claims() {
        for (int wrong : new int[] {-1, 9, 60, LEAST, GREATEST}) {
            refused("P34 stay " + wrong, -1, x -> x.gone(wrong));
            refused("P35 stay " + wrong, -1, x -> x.claim(wrong));
        }
        for (int s = 1; s <= 8; s++) {
            int stay = s;
            refused("P35 not both are told of " + s, -3, x -> x.claim(stay));
        }
        refused("P35 the list after alone", () -> {
            HouseKeepers x = onDay(53);
            x.list(6, true, 1);
            return x;
        }, -3, x -> x.claim(6));
    }
}
