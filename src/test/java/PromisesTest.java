/** For each promise ordinary inputs, the edges that the document names, and wrong inputs in their order. */
public final class PromisesTest {
    private static final int FAR = 1000000000;
    private static final Check C = new Check();

    public static void main(String[] args) {
        newObject();
        days();
        town();
        way();
        limit();
        keeper();
        house();
        stay();
        stayOf();
        whyInOrder();
        whyTheWay();
        whyVisa();
        whyTerm();
        take();
        cancel();
        where();
        feed();
        termFaults();
        termRefusals();
        termInForce();
        worthSums();
        worthLetters();
        review();
        hand();
        trust();
        bound();
        stars();
        put();
        unput();
        chain();
        chainRefusals();
        wish();
        pair();
        rowRefusals();
        tell();
        judge();
        whoElse();
        place();
        group();
        list();
        look();
        gone();
        claim();
        count();
        C.finish("PromisesTest");
    }

    private static void due(String what, long got, long want) {
        C.due(what, got, want);
    }

    // Promise 1
    private static void newObject() {
        HouseKeepers x = new HouseKeepers();
        for (int what = 0; what <= 18; what++) due("P1 count " + what, x.count(what), 0);
        due("P1 land", x.town(9, 0), 0);
        due("P1 hours", x.way(8, 9, 24), 24);
        due("P1 limit", x.limit(4, 180), 180);
    }

    // Promise 2
    private static void days() {
        HouseKeepers x = new HouseKeepers();
        due("P2 a day", x.days(1), 1);
        due("P2 none", x.days(0), -4);
        due("P2 back", x.days(Integer.MIN_VALUE), -4);
        due("P2 too many", x.days(1500), -6);
        due("P2 far too many", x.days(Integer.MAX_VALUE), -6);
        due("P2 to the last", x.days(1499), 1500);
        due("P2 behind the last", x.days(1), -6);
        due("P2 counted -4", x.count(14), 2);
        due("P2 counted -6", x.count(16), 3);
        due("P2 still", x.count(0), 1500);
    }

    // Promise 3
    private static void town() {
        HouseKeepers x = new HouseKeepers();
        due("P3 first", x.town(9, 4), 0);
        due("P3 then", x.town(9, 1), 4);
        due("P3 again", x.town(9, 1), 1);
        due("P3 other town", x.town(8, 0), 0);
        due("P3 no town", x.town(10, 0), -1);
        due("P3 no town below", x.town(-1, 0), -1);
        due("P3 no land", x.town(0, 5), -1);
        due("P3 no land below", x.town(0, -1), -1);
        due("P3 counted", x.count(11), 4);
    }

    // Promise 4
    private static void way() {
        HouseKeepers x = new HouseKeepers();
        due("P4 first", x.way(0, 9, 240), 24);
        due("P4 both ways", x.way(9, 0, 1), 240);
        due("P4 back again", x.way(0, 9, 5), 1);
        due("P4 one", x.way(3, 3, 0), -1);
        due("P4 no town", x.way(10, 3, 0), -1);
        due("P4 no town b", x.way(3, -1, 0), -1);
        due("P4 below", x.way(0, 9, 0), -4);
        due("P4 above", x.way(0, 9, 241), -6);
        due("P4 unchanged", x.way(0, 9, 5), 5);
    }

    // Promise 5
    private static void limit() {
        HouseKeepers x = new HouseKeepers();
        due("P5 first", x.limit(4, 0), 180);
        due("P5 then", x.limit(4, 180), 0);
        due("P5 no land", x.limit(5, -1), -1);
        due("P5 no land below", x.limit(-1, 181), -1);
        due("P5 below", x.limit(4, -1), -4);
        due("P5 above", x.limit(4, 181), -6);
        due("P5 unchanged", x.limit(4, 7), 180);
    }

    // Promise 6
    private static void keeper() {
        HouseKeepers x = new HouseKeepers();
        due("P6 no town", x.keeper(10, -1, 0, -1), -1);
        due("P6 no town below", x.keeper(-1, 0, 1, 0), -1);
        due("P6 beasts below", x.keeper(0, -1, 3, 100000), -4);
        due("P6 persons below", x.keeper(0, 256, 0, 0), -4);
        due("P6 marks below", x.keeper(0, 256, 3, -1), -4);
        due("P6 beasts above", x.keeper(0, 256, 1, 0), -6);
        due("P6 persons above", x.keeper(0, 0, 3, 0), -6);
        due("P6 marks above", x.keeper(0, 0, 1, 100000), -6);
        for (int k = 0; k < 20; k++) due("P6 number", x.keeper(k % 10, 255, 1 + k % 2, 99999), k);
        due("P6 no room", x.keeper(0, 0, 1, 0), -6);
        due("P6 below ahead of no room", x.keeper(0, 0, 0, 0), -4);
        due("P6 counted", x.count(1), 20);
    }

    // Promise 7
    private static void house() {
        HouseKeepers x = new HouseKeepers();
        due("P7 no town", x.house(10, -1), -1);
        due("P7 no town below", x.house(-1, 0), -1);
        due("P7 below", x.house(0, -1), -4);
        due("P7 above", x.house(0, 256), -6);
        for (int h = 0; h < 20; h++) due("P7 number", x.house(h % 10, 255), h);
        due("P7 no room", x.house(0, 0), -6);
        due("P7 below ahead of no room", x.house(0, -1), -4);
        due("P7 counted", x.count(2), 20);
    }

    // Promise 8
    private static void stay() {
        HouseKeepers x = new HouseKeepers();
        x.house(0, 0);
        x.house(0, 0);
        x.days(3);
        due("P8 no house", x.stay(2, 0, 0), -1);
        due("P8 no house below", x.stay(-1, 5, 5), -1);
        due("P8 now", x.stay(0, 3, 5), -4);
        due("P8 to ahead of from", x.stay(0, 1502, 1501), -4);
        due("P8 above", x.stay(0, 5, 1501), -6);
        due("P8 first", x.stay(0, 4, 6), 0);
        due("P8 on its last day", x.stay(0, 6, 9), -3);
        due("P8 on its first day", x.stay(0, 4, 4), -3);
        due("P8 around it", x.stay(0, 4, 1500), -3);
        due("P8 the day behind", x.stay(0, 7, 1500), 1);
        due("P8 another house", x.stay(1, 4, 6), 2);
        x.cancel(0);
        due("P8 a cancelled one is no other", x.stay(0, 5, 6), 3);
        x.keeper(0, 0, 1, 0);
        x.take(0, 3);
        due("P8 a taken one is", x.stay(0, 5, 5), -3);
        for (int s = 4; s < 60; s++) due("P8 number", x.stay(1, 10 + s, 10 + s), s);
        due("P8 no room", x.stay(1, 900, 900), -6);
        due("P8 no room ahead of another one", x.stay(0, 5, 5), -6);
        due("P8 below ahead of no room", x.stay(1, 3, 3), -4);
        due("P8 counted", x.count(3), 60);
    }

    // Promise 9
    private static void stayOf() {
        HouseKeepers x = new HouseKeepers();
        x.house(0, 0);
        x.house(0, 0);
        x.keeper(0, 0, 1, 0);
        x.keeper(0, 0, 1, 0);
        x.stay(1, 4, 6);
        due("P9 house", x.stayOf(0, 0), 1);
        due("P9 from", x.stayOf(0, 1), 4);
        due("P9 to", x.stayOf(0, 2), 6);
        due("P9 open", x.stayOf(0, 3), 0);
        due("P9 nobody", x.stayOf(0, 4), -9);
        x.take(1, 0);
        due("P9 taken", x.stayOf(0, 3), 1);
        due("P9 by", x.stayOf(0, 4), 1);
        x.days(6);
        due("P9 not over on its last day", x.stayOf(0, 5), 0);
        x.cancel(0);
        due("P9 cancelled", x.stayOf(0, 3), 2);
        due("P9 who had it", x.stayOf(0, 4), 1);
        x.days(1);
        due("P9 over", x.stayOf(0, 5), 1);
        due("P9 no stay", x.stayOf(1, 6), -1);
        due("P9 no stay below", x.stayOf(-1, 0), -1);
        due("P9 other", x.stayOf(0, 6), -2);
        due("P9 other below", x.stayOf(0, -1), -2);
        x.stay(0, 9, 9);
        x.cancel(1);
        due("P9 cancelled of nobody", x.stayOf(1, 4), -9);
    }

    // Promise 10
    private static void whyInOrder() {
        HouseKeepers x = new HouseKeepers();
        x.keeper(0, 1, 1, 0);
        x.house(1, 2);
        x.house(1, 1);
        due("P10 no stay", x.why(0, 0), -1);
        x.stay(0, 2, 3);
        due("P10 no keeper", x.why(1, 0), -1);
        due("P10 no keeper below", x.why(-1, 0), -1);
        due("P10 no stay below", x.why(0, -1), -1);
        due("P10 beasts", x.why(0, 0), 2);
        x.stay(1, 2, 3);
        x.house(1, 0);
        x.stay(2, 3, 3);
        x.limit(0, 2);
        due("P10 visa is kept with as many", x.why(0, 1), 0);
        due("P10 take", x.take(0, 1), 1);
        due("P10 taken", x.why(0, 1), 9);
        due("P10 clash ahead of visa", x.why(0, 2), 3);
        due("P10 beasts ahead of clash", x.why(0, 0), 2);
        x.days(2);
        due("P10 begun ahead of beasts", x.why(0, 0), 1);
        due("P10 not begun yet", x.why(0, 2), 3);
        x.cancel(0);
        due("P10 not open ahead of begun", x.why(0, 0), 9);
    }

    private static void whyTheWay() {
        HouseKeepers x = new HouseKeepers();
        x.keeper(0, 0, 1, 0);
        x.house(1, 0);
        x.house(2, 0);
        x.house(3, 0);
        x.way(0, 1, 73);
        x.stay(0, 4, 5);
        due("P10 as many days from first place", x.why(0, 0), 0);
        x.days(1);
        due("P10 fewer days since now", x.why(0, 0), 4);
        x.way(0, 1, 72);
        due("P10 three days again", x.why(0, 0), 0);
        x.take(0, 0);
        x.way(1, 2, 48);
        x.stay(1, 7, 8);
        due("P10 two days from the one ahead", x.why(0, 1), 0);
        x.way(1, 2, 49);
        due("P10 three days are more", x.why(0, 1), 4);
        x.way(1, 2, 24);
        x.take(0, 1);
        x.stay(2, 6, 6);
        due("P10 between both", x.why(0, 2), 0);
        x.way(3, 2, 25);
        due("P10 to the one behind", x.why(0, 2), 4);
        x.way(3, 2, 24);
        x.way(3, 1, 25);
        due("P10 from the one ahead", x.why(0, 2), 4);
        x.house(4, 0);
        x.stay(3, 30, 31);
        x.take(0, 3);
        x.way(3, 4, 240);
        x.way(3, 1, 24);
        due("P10 the one that begins first behind it, not another", x.why(0, 2), 0);
        x.way(3, 1, 25);
        x.cancel(0);
        due("P10 cancelled ones are none", x.why(0, 2), 0);
        x.house(2, 0);
        x.stay(4, 9, 9);
        due("P10 the same town the next day", x.why(0, 4), 0);
    }

    private static void whyVisa() {
        HouseKeepers x = new HouseKeepers();
        x.keeper(0, 0, 1, 0);
        x.house(0, 0);
        x.house(1, 0);
        x.town(1, 1);
        x.limit(0, 10);
        x.stay(0, 11, 15);
        x.take(0, 0);
        x.stay(0, 185, 190);
        due("P10 180 days from 11 end with 190", x.why(0, 1), 5);
        x.stay(0, 191, 200);
        due("P10 the next 180", x.why(0, 2), 0);
        x.stay(1, 185, 190);
        due("P10 another land", x.why(0, 3), 0);
        x.take(0, 2);
        x.limit(0, 9);
        x.stay(0, 900, 900);
        due("P10 some 180 days, wherever", x.why(0, 4), 5);
        x.limit(0, 10);
        due("P10 and with as many", x.why(0, 4), 0);
        x.town(1, 0);
        due("P10 lands as told now", x.why(0, 3), 5);
        x.limit(0, 180);
        x.stay(1, 900, 1079);
        due("P10 180 days", x.why(0, 5), 0);
        x.stay(1, 1080, 1260);
        due("P10 a longer one is within 180, too", x.why(0, 6), 0);
        x.limit(0, 179);
        due("P10 but not within fewer", x.why(0, 6), 5);
    }

    private static void whyTerm() {
        HouseKeepers x = new HouseKeepers();
        x.keeper(0, 0, 1, 0);
        x.house(0, 0);
        x.stay(0, 5, 6);
        Check.feedText(x, "0");
        x.term(0, 0);
        due("P10 worth 0", x.why(0, 0), 6);
        Check.feedText(x, "0-1");
        x.term(0, 0);
        due("P10 worth below 0", x.why(0, 0), 6);
        due("P11 the term does not let", x.take(0, 0), -3);
        x.limit(0, 1);
        due("P10 visa ahead of term", x.why(0, 0), 5);
        x.limit(0, 2);
        Check.feedText(x, "1");
        x.term(0, 0);
        due("P10 worth 1", x.why(0, 0), 0);
    }

    // Promise 11
    private static void take() {
        HouseKeepers x = new HouseKeepers();
        x.keeper(0, 0, 1, 0);
        x.keeper(0, 0, 1, 0);
        x.house(0, 0);
        x.stay(0, 5, 6);
        due("P11 no keeper", x.take(2, 0), -1);
        due("P11 no stay", x.take(0, 1), -1);
        due("P11 taken", x.take(1, 0), 1);
        due("P11 not twice", x.take(1, 0), -3);
        due("P11 nor by another", x.take(0, 0), -3);
        due("P11 whose", x.stayOf(0, 4), 1);
        x.stay(0, 9, 9);
        x.days(9);
        due("P11 begun", x.take(0, 1), -3);
        due("P11 it is open still", x.stayOf(1, 3), 0);
        due("P11 counted", x.count(13), 3);
    }

    // Promise 12
    private static void cancel() {
        HouseKeepers x = new HouseKeepers();
        x.keeper(0, 0, 1, 0);
        x.house(0, 0);
        for (int s = 0; s < 3; s++) x.stay(0, 5 + s, 5 + s);
        due("P12 no stay", x.cancel(3), -1);
        due("P12 no stay below", x.cancel(-1), -1);
        x.take(0, 1);
        due("P12 of nobody", x.cancel(0), -9);
        due("P12 cancelled", x.cancel(0), -3);
        x.days(6);
        due("P12 on its last day", x.cancel(1), 0);
        x.days(2);
        due("P12 over", x.cancel(2), -3);
        due("P12 how many", x.count(6), 2);
    }

    // Promise 13
    private static void where() {
        HouseKeepers x = new HouseKeepers();
        x.keeper(7, 0, 1, 0);
        x.house(1, 0);
        x.house(2, 0);
        x.stay(0, 5, 6);
        x.stay(1, 9, 10);
        x.take(0, 1);
        x.take(0, 0);
        due("P13 first", x.where(0, 0), 7);
        due("P13 on its last day", x.where(0, 6), 7);
        due("P13 behind it", x.where(0, 7), 1);
        due("P13 in the next, but for it", x.where(0, 10), 1);
        due("P13 behind both", x.where(0, 11), 2);
        due("P13 the last day of all", x.where(0, 1500), 2);
        x.cancel(1);
        due("P13 cancelled", x.where(0, 1500), 1);
        due("P13 no keeper", x.where(1, -1), -1);
        due("P13 no keeper below", x.where(-1, 1501), -1);
        due("P13 below", x.where(0, -1), -4);
        due("P13 above", x.where(0, 1501), -6);
    }

    // Promise 14
    private static void feed() {
        HouseKeepers x = new HouseKeepers();
        due("P14 none", x.feed(0, 0), -4);
        due("P14 nine", x.feed(9, 0), -6);
        due("P14 far above", x.feed(Integer.MAX_VALUE, 0), -6);
        for (int i = 1; i <= 7; i++) due("P14 eight", x.feed(8, -1L), 8 * i);
        due("P14 above 60", x.feed(5, 0), -6);
        due("P14 just 60", x.feed(4, 0), 60);
        due("P14 one more", x.feed(1, 0), -6);
        due("P14 on the tape", x.count(10), 60);
        HouseKeepers y = lonely();
        y.feed(2, 0x777777773231L);
        y.term(0, 0);
        due("P14 the lowest first, and no more than told", y.worth(0, 0), 12);
    }

    /** A keeper 0, a house 0 in its town, and a stay 0 from day 5 to 6. */
    private static HouseKeepers lonely() {
        HouseKeepers x = new HouseKeepers();
        x.keeper(0, 0, 1, 0);
        x.house(0, 0);
        x.stay(0, 5, 6);
        return x;
    }

    // Promise 15
    private static void termFaults() {
        fault("", 0);
        fault("+1", 0);
        fault("-1", 0);
        fault("1+", 2);
        fault("1*/2", 2);
        fault("a", 0);
        fault("1 ", 1);
        fault("12345", -1);
        fault("123456", 5);
        fault("t1", 1);
        fault("1t", 1);
        fault("tt", 1);
        fault("(1", 2);
        fault("(1)", -1);
        fault("()", 1);
        fault("(1<2", 4);
        fault("(1<2)", -1);
        fault("(1<2<3)", 4);
        fault("(1<)", 3);
        fault("(1<2)=1", 5);
        fault("((1<2)=1)", -1);
        fault("1<2", 1);
        fault("1)", 1);
        fault("(((((1)))))", -1);
        fault("((((((1))))))", 5);
        fault("(((((1)))))+(((((1)))))", -1);
        fault("(1+2*(3-4/(5)))", -1);
        fault("(123456)", 6);
        fault("2(1)", 1);
        fault("(1)2", 3);
        fault("T", 0);
        fault("1+" + (char) 255, 2);
        fault("1" + (char) 0, 1);
        for (char letter : "tnpbdlhkyz".toCharArray()) fault("" + letter, -1);
        for (char letter : "acefgijmoqrsuvwx".toCharArray()) fault("1-" + letter, 2);
        fault("1+1+1+1+1+1+1+1+1+1+1+1+1+1+1+1+1+1+1+1+1+1+1+1+1+1+1+1+1+1", 60);
        fault("11+1+1+1+1+1+1+1+1+1+1+1+1+1+1+1+1+1+1+1+1+1+1+1+1+1+1+1+1+1", -1);
    }

    /** Place -1: none. */
    private static void fault(String text, int place) {
        HouseKeepers x = lonely();
        String fed = text.length() > 60 ? text.substring(0, 60) : text;
        if (place == 60) fed = fed.substring(0, 59) + "+";
        Check.feedText(x, fed);
        due("P15 fault of " + fed, x.term(0, 0), place < 0 ? 1 : -20 - place);
        due("P15 the tape has none", x.count(10), 0);
        due("P15 terms", x.count(7), place < 0 ? 1 : 0);
        for (int what = 11; what <= 16; what++) due("P15 a fault is no refusal", x.count(what), 0);
    }

    private static void termRefusals() {
        HouseKeepers x = lonely();
        x.days(2);
        x.feed(1, '+');
        due("P15 no house", x.term(1, 1), -1);
        due("P15 no house below", x.term(-2, 1501), -1);
        due("P15 a day ahead of now", x.term(0, 1), -4);
        due("P15 above", x.term(0, 1501), -6);
        due("P15 refused: the tape stays", x.count(10), 1);
        due("P15 fault", x.term(-1, 2), -20);
        for (int t = 1; t <= 30; t++) {
            x.feed(1, '1');
            due("P15 how many", x.term(t % 2 - 1, 1500), t);
        }
        x.feed(1, '+');
        due("P15 no room ahead of the fault", x.term(0, 2), -6);
        due("P15 no house ahead of no room", x.term(1, 2), -1);
        due("P15 the tape stays still", x.count(10), 1);
    }

    private static void termInForce() {
        HouseKeepers x = lonely();
        x.house(0, 0);
        x.stay(1, 8, 9);
        tellTerm(x, "10", -1, 0);
        tellTerm(x, "20", -1, 3);
        tellTerm(x, "30", -1, 3);
        tellTerm(x, "40", -1, 2);
        tellTerm(x, "50", 0, 4);
        due("P16 of all now", x.worth(0, 1), 10);
        due("P16 its own is not in force yet", x.worth(0, 0), 10);
        x.days(2);
        due("P16 of all on 2", x.worth(0, 1), 40);
        x.days(1);
        due("P16 of several the one told last", x.worth(0, 1), 30);
        x.days(1);
        due("P16 the latest day of all", x.worth(0, 1), 30);
        due("P16 its own", x.worth(0, 0), 50);
        tellTerm(x, "60", -1, 4);
        due("P16 its own, though one of all is told later", x.worth(0, 0), 50);
        due("P16 the other one", x.worth(0, 1), 60);
        tellTerm(x, "70", 0, 4);
        due("P16 its own told last", x.worth(0, 0), 70);
    }

    private static void tellTerm(HouseKeepers x, String text, int house, int day) {
        Check.feedText(x, text);
        x.term(house, day);
    }

    // Promise 16
    private static void worthSums() {
        HouseKeepers none = lonely();
        due("P16 without one", none.worth(0, 0), 1);
        due("P16 no keeper", none.worth(1, 0), FAR + 1);
        due("P16 no stay", none.worth(0, 1), FAR + 1);
        due("P16 counted", none.count(11), 2);
        worth("7-2-1", 4);
        worth("2+3*4", 14);
        worth("(2+3)*4", 20);
        worth("100/7/2", 7);
        worth("100/7*7", 98);
        worth("(0-7)/2", -3);
        worth("7/(0-2)", -3);
        worth("7/0", 0);
        worth("7/0+3", 3);
        worth("00012", 12);
        worth("(1<2)", 1);
        worth("(2<2)", 0);
        worth("(2=2)", 1);
        worth("(1=2)", 0);
        worth("(3>2)", 1);
        worth("(2>2)", 0);
        worth("(1+1=2)*5", 5);
        worth("99999*99999", FAR);
        worth("99999*99999-1", FAR - 1);
        worth("0-99999*99999-5", -FAR);
        worth("99999*99999*99999/99999", 10000);
        worth("(99999*99999)*(99999*99999)", FAR);
        worth("(0-99999*99999)*(99999*99999)", -FAR);
        worth("99999*99999+99999-99999", FAR - 99999);
    }

    private static void worth(String text, int want) {
        HouseKeepers x = lonely();
        tellTerm(x, text, 0, 0);
        due("P16 worth of " + text, x.worth(0, 0), want);
    }

    private static void worthLetters() {
        HouseKeepers x = known();
        letter(x, "t", 1, 50);
        letter(x, "t", 0, -50);
        letter(x, "n", 1, 1);
        letter(x, "n", 2, 0);
        letter(x, "p", 1, 2);
        letter(x, "b", 1, 3);
        letter(x, "d", 1, 4);
        letter(x, "l", 1, 3);
        letter(x, "h", 1, 1);
        letter(x, "k", 1, 1);
        letter(x, "y", 1, 25);
        letter(x, "z", 0, 0);
        letter(x, "z", 1, 1);
        letter(x, "z", 2, 0);
        x.keeper(0, 255, 2, 92856);
        letter(x, "z", 3, 0);
        x.days(27);
        letter(x, "y", 1, -2);
    }

    private static void letter(HouseKeepers x, String text, int keeper, int want) {
        tellTerm(x, text, 1, x.count(0));
        due("P16 letter " + text + " of " + keeper, x.worth(keeper, 2), want);
    }

    /**
     * On day 5: the house 0 gave keeper 0 2 and keeper 1 4 (its hand is 300), both count; they are
     * alike, keeper 2 is alike to neither. Stay 2 of house 1 is open from 30 to 33.
     */
    private static HouseKeepers known() {
        HouseKeepers x = new HouseKeepers();
        x.keeper(0, 255, 1, 12345);
        x.keeper(0, 255, 2, 12845);
        x.keeper(0, 255, 2, 12856);
        x.house(0, 0);
        x.house(1, 0b10101);
        x.town(1, 3);
        x.stay(0, 1, 1);
        x.stay(0, 3, 3);
        x.stay(1, 30, 33);
        x.take(0, 0);
        x.take(1, 1);
        x.days(5);
        x.review(0, true, 2);
        x.review(0, false, 3);
        x.review(1, true, 4);
        x.review(1, false, 4);
        return x;
    }

    // Promise 17
    private static void review() {
        HouseKeepers x = new HouseKeepers();
        x.keeper(0, 0, 1, 0);
        x.house(0, 0);
        x.stay(0, 2, 3);
        x.stay(0, 4, 4);
        x.take(0, 0);
        due("P17 no stay", x.review(2, true, 0), -1);
        x.days(3);
        due("P17 not over on its last day", x.review(0, true, 9), -3);
        x.days(2);
        due("P17 not taken", x.review(1, true, 0), -3);
        due("P17 below", x.review(0, true, 0), -4);
        due("P17 above", x.review(0, true, 6), -6);
        due("P17 shut", x.review(0, false, 5), 0);
        due("P17 told", x.review(0, false, 9), -3);
        due("P17 the other one opens both", x.review(0, true, 1), 1);
        due("P17 how many", x.count(8), 2);
        x.stay(0, 10, 10);
        x.take(0, 2);
        x.days(19);
        due("P17 14 days behind", x.review(2, true, 1), 0);
        x.days(1);
        due("P17 more than 14", x.review(2, false, 1), 1);
        x.stay(0, 26, 26);
        x.take(0, 3);
        x.days(31);
        due("P17 30 days behind", x.review(3, false, 3), 1);
        x.days(1);
        due("P17 more than 30", x.review(3, true, 3), -3);
        x.stay(0, 60, 60);
        x.take(0, 4);
        x.cancel(4);
        x.days(10);
        due("P17 cancelled", x.review(4, true, 3), -3);
    }

    // Promise 18
    private static void hand() {
        HouseKeepers x = known();
        due("P18 no house", x.hand(2, -1), -1);
        due("P18 no house below", x.hand(-1, 0), -1);
        due("P18 below", x.hand(0, -1), -4);
        due("P18 behind now", x.hand(0, 6), -6);
        due("P18 without", x.hand(1, 5), 300);
        due("P18 on day 0", x.hand(0, 0), 300);
        due("P18 of two", x.hand(0, 5), 300);
        due("P18 as known the day ahead", x.hand(0, 4), 300);
        x.house(0, 0);
        for (int s = 0; s < 3; s++) x.stay(2, 6 + s, 6 + s);
        for (int s = 3; s < 6; s++) x.take(0, s);
        x.days(5);
        x.review(3, true, 5);
        x.review(4, true, 5);
        x.review(5, true, 1);
        due("P18 shut", x.hand(2, 10), 300);
        x.days(11);
        due("P18 one counts", x.hand(2, 21), 500);
        x.days(4);
        due("P18 all count, cut", x.hand(2, 25), 366);
        due("P18 known on 22", x.hand(2, 22), 500);
        due("P18 known on 23", x.hand(2, 23), 366);
        due("P18 known on 20", x.hand(2, 20), 300);
    }

    // Promise 19
    private static void trust() {
        HouseKeepers x = known();
        due("P19 no keeper", x.trust(3, -1), FAR + 1);
        due("P19 below", x.trust(0, -1), FAR + 4);
        due("P19 behind now", x.trust(0, 6), FAR + 6);
        due("P19 on day 0", x.trust(0, 0), 0);
        due("P19 less", x.trust(0, 5), -50);
        due("P19 more", x.trust(1, 5), 50);
        due("P19 nothing known", x.trust(2, 5), 0);
        due("P19 the day ahead", x.trust(1, 4), 0);
        x.stay(0, 7, 7);
        x.take(0, 3);
        x.days(3);
        x.review(3, false, 1);
        x.review(3, true, 4);
        due("P19 hand is 333: -133 and 67 by 3", x.trust(0, 8), -22);
        due("P19 cut toward 0", x.trust(1, 8), 33);
        due("P19 as known on 7", x.trust(0, 7), -50);
        due("P19 counted", x.count(16), 1);
    }

    // Promise 20
    private static void bound() {
        HouseKeepers x = known();
        due("P20 no keeper", x.bound(3, 2), FAR + 1);
        due("P20 other", x.bound(0, 2), FAR + 2);
        due("P20 other below", x.bound(0, -1), FAR + 2);
        due("P20 least", x.bound(0, 0), -250);
        due("P20 greatest", x.bound(0, 1), 150);
        due("P20 least of one unknown", x.bound(2, 0), -400);
        due("P20 greatest of one unknown", x.bound(2, 1), 400);
        x.stay(0, 7, 7);
        x.take(0, 3);
        x.days(3);
        x.review(3, true, 4);
        due("P20 a shut one does not count", x.bound(0, 0), -250);
        x.review(3, false, 1);
        due("P20 133 of two", x.bound(0, 0), -155);
        due("P20 133 more", x.bound(0, 1), 111);
    }

    // Promise 21
    private static void stars() {
        HouseKeepers x = known();
        due("P21 no house", x.stars(2, -1), -1);
        due("P21 below", x.stars(0, -1), -4);
        due("P21 behind now", x.stars(0, 6), -6);
        due("P21 on day 0", x.stars(0, 0), -9);
        due("P21 mean", x.stars(0, 5), 350);
        due("P21 the day ahead", x.stars(0, 4), -9);
        due("P21 none", x.stars(1, 5), -9);
        x.stay(0, 7, 7);
        x.take(0, 3);
        x.days(3);
        x.review(3, false, 4);
        due("P21 shut", x.stars(0, 8), 350);
        x.days(14);
        due("P21 cut", x.stars(0, 22), 366);
    }

    // Promise 22
    private static void put() {
        HouseKeepers x = new HouseKeepers();
        due("P22 below", x.put(-2), -4);
        due("P22 above", x.put(100), -6);
        for (int i = 1; i <= 12; i++) due("P22 how many", x.put(i % 2 == 0 ? -1 : 99), i);
        due("P22 no room", x.put(0), -6);
        due("P22 below ahead of no room", x.put(-2), -4);
        due("P22 counted", x.count(17), 12);
    }

    // Promise 23
    private static void unput() {
        HouseKeepers x = new HouseKeepers();
        due("P23 none", x.unput(), 0);
        x.put(3);
        x.put(3);
        due("P23 two", x.unput(), 2);
        due("P23 none any more", x.unput(), 0);
        due("P23 counted", x.count(17), 0);
    }

    // Promise 24
    private static void chain() {
        HouseKeepers x = new HouseKeepers();
        x.keeper(0, 0, 1, 0);
        for (int h = 0; h < 6; h++) x.house(0, 0);
        x.stay(0, 5, 8);
        x.stay(1, 1, 5);
        x.stay(2, 8, 12);
        x.stay(3, 6, 6);
        x.stay(4, 1, 4);
        due("P24 empty", x.chain(0, 0), 0);
        due("P24 empty set", x.chain(0, 1), 0);
        for (int s = 0; s < 3; s++) x.put(s);
        due("P24 the most days", x.chain(0, 0), 10);
        due("P24 both ends", x.chain(0, 1), 0b110);
        x.put(3);
        due("P24 and one between", x.chain(0, 0), 11);
        due("P24 three", x.chain(0, 1), 0b1110);
        x.unput();
        x.put(0);
        x.put(4);
        x.put(1);
        x.put(3);
        due("P24 days of two", x.chain(0, 0), 8);
        due("P24 four and four", x.chain(0, 1), 0b0011);
        x.stay(5, 20, 29);
        x.limit(0, 12);
        x.unput();
        x.put(2);
        x.put(5);
        due("P24 visa lets one", x.chain(0, 0), 10);
        due("P24 the longer one", x.chain(0, 1), 0b10);
        x.way(0, 1, 240);
        chainTies();
        chainByWayOfOthers();
    }

    private static void chainTies() {
        HouseKeepers x = new HouseKeepers();
        x.keeper(0, 0, 1, 0);
        for (int h = 0; h < 4; h++) x.house(0, 0);
        x.stay(0, 1, 2);
        x.stay(1, 3, 4);
        x.stay(2, 1, 4);
        x.stay(3, 1, 4);
        for (int s = 0; s < 4; s++) x.put(s);
        due("P24 four days", x.chain(0, 0), 4);
        due("P24 of the fewest stays, the least", x.chain(0, 1), 0b0100);
        x.cancel(2);
        due("P24 a cancelled one", x.chain(0, 1), -3);
        x.unput();
        x.put(3);
        x.put(1);
        x.put(0);
        due("P24 the fewest again", x.chain(0, 1), 0b001);
        due("P24 with those taken", x.take(0, 0), 1);
        x.unput();
        x.put(3);
        x.put(1);
        due("P24 beside the taken one", x.chain(0, 1), 0b10);
    }

    /** A place too far from the first one is near by way of another stay of the set. */
    private static void chainByWayOfOthers() {
        HouseKeepers x = new HouseKeepers();
        x.keeper(0, 0, 1, 0);
        x.house(2, 0);
        x.house(1, 0);
        x.way(0, 2, 240);
        x.stay(0, 5, 5);
        x.stay(1, 2, 3);
        x.put(0);
        due("P24 too far", x.chain(0, 0), 0);
        x.put(1);
        due("P24 by way of the other", x.chain(0, 0), 3);
        due("P24 both", x.chain(0, 1), 0b11);
        tellTerm(x, "0", 1, 0);
        due("P24 the term does not let", x.chain(0, 0), 0);
        tellTerm(x, "1", 1, 0);
        x.days(2);
        due("P24 begun", x.chain(0, 0), 0);
    }

    private static void chainRefusals() {
        HouseKeepers x = lonely();
        for (int s = 1; s < 12; s++) x.stay(0, 10 + s, 10 + s);
        x.put(-1);
        due("P24 no keeper", x.chain(1, 0), -1);
        due("P24 no stay ahead of other", x.chain(0, 2), -1);
        x.unput();
        x.put(12);
        due("P24 no such stay", x.chain(0, 0), -1);
        x.unput();
        x.put(3);
        x.put(3);
        due("P24 other ahead of state", x.chain(0, 2), -2);
        due("P24 other below", x.chain(0, -1), -2);
        due("P24 twice", x.chain(0, 0), -3);
        x.unput();
        for (int s = 0; s < 10; s++) x.put(s);
        due("P24 ten", x.chain(0, 0), 11);
        x.put(10);
        due("P24 above ten", x.chain(0, 0), -6);
        x.put(10);
        due("P24 twice ahead of above ten", x.chain(0, 0), -3);
        x.take(0, 0);
        x.unput();
        x.put(0);
        due("P24 not open", x.chain(0, 1), -3);
    }

    // Promise 25
    private static void wish() {
        HouseKeepers x = lonely();
        due("P25 no keeper", x.wish(1, 0, -1), -1);
        due("P25 no land", x.wish(0, 5, 100), -1);
        due("P25 no land below", x.wish(0, -1, 0), -1);
        due("P25 below", x.wish(0, 4, -1), -4);
        due("P25 above", x.wish(0, 4, 100), -6);
        due("P25 first", x.wish(0, 4, 99), 0);
        due("P25 then", x.wish(0, 4, 0), 99);
        due("P25 then 0", x.wish(0, 4, 1), 0);
        due("P25 another land", x.wish(0, 3, 1), 0);
    }

    // Promise 26
    private static void pair() {
        HouseKeepers x = rivals();
        due("P26 place 0", x.pair(0), 0);
        due("P26 place 1", x.pair(1), 1);
        due("P26 place 2", x.pair(2), 2);
        due("P26 no such place", x.pair(3), -2);
        due("P26 no such place below", x.pair(-1), -2);
        x.wish(2, 3, 1);
        due("P26 by trust, ahead of the least", x.pair(0), 0);
        x.wish(1, 3, 50);
        due("P26 the trusted one has the wish", x.pair(2), 1);
        due("P26 who is sent away asks on, and is held", x.pair(0), 2);
        due("P26 whom that one drives out", x.pair(1), 0);
        x.wish(0, 3, 60);
        due("P26 less trust waits", x.pair(2), 1);
        due("P26 and asks on", x.pair(0), 2);
        due("P26 the least trust comes last", x.pair(1), 0);
        tellTerm(x, "0", 1, x.count(0));
        due("P26 nobody may", x.pair(0), -9);
    }

    /**
     * On day 5, trust: keeper 0 -50, keeper 1 50, keeper 2 0. The row: stays 2, 3 and 4 of houses 1,
     * 2 and 0 in lands 1, 2 and 3, all open on the same days; keepers 0, 1 and 2 wish for these.
     */
    private static HouseKeepers rivals() {
        HouseKeepers x = known();
        x.house(2, 0);
        x.town(2, 2);
        x.stay(2, 30, 33);
        x.house(0, 0);
        x.town(0, 3);
        x.town(1, 1);
        x.stay(0, 30, 33);
        x.put(2);
        x.put(3);
        x.put(4);
        x.wish(0, 1, 7);
        x.wish(1, 2, 7);
        x.wish(2, 3, 7);
        return x;
    }

    /** What pair(), judge() and place() refuse, in their order. */
    private static void rowRefusals() {
        HouseKeepers x = lonely();
        for (int s = 1; s < 12; s++) x.stay(0, 10 + s, 10 + s);
        due("P26 no place in an empty row", x.pair(0), -2);
        due("P30 no place in an empty row", x.place(0), -2);
        for (int s = 0; s < 6; s++) x.put(s);
        due("P26 six", x.pair(5), -9);
        due("P30 nine is no place", x.place(9), -2);
        due("P30 twelve is no place", x.place(12), -2);
        due("P30 below", x.place(-1), -2);
        x.put(6);
        threeRefuse(x, "above six", -6);
        x.put(6);
        threeRefuse(x, "twice ahead of above six", -3);
        x.put(99);
        threeRefuse(x, "no stay ahead of twice", -1);
        x.unput();
        x.put(-1);
        threeRefuse(x, "no stay below", -1);
        x.cancel(3);
        x.unput();
        x.put(3);
        threeRefuse(x, "not open", -3);
    }

    private static void threeRefuse(HouseKeepers x, String why, int want) {
        due("P26 " + why, x.pair(77), want);
        due("P28 " + why, x.judge(), want);
        due("P30 " + why, x.place(77), want);
    }

    // Promise 27
    private static void tell() {
        HouseKeepers x = new HouseKeepers();
        due("P27 below", x.tell(-2), -4);
        due("P27 above", x.tell(100), -6);
        for (int i = 1; i <= 6; i++) due("P27 how many", x.tell(i % 2 == 0 ? -1 : 99), i);
        due("P27 no room", x.tell(0), -6);
        due("P27 below ahead of no room", x.tell(-2), -4);
        due("P27 counted", x.count(18), 6);
        due("P27 not the row", x.count(17), 0);
    }

    // Promise 28
    private static void judge() {
        HouseKeepers x = rivals();
        judged(x, -9, 0, 1, 2);
        judged(x, 0, 3, 1, 1);
        judged(x, 2, 0, 1, 99);
        judged(x, 1, 0, 0, 0);
        judged(x, 2, -1, 1, 1);
        judged(x, 20, -1, -1, -1);
        judged(x, 20, -1, 1, 2);
        judged(x, 20, 0, -1, 2);
        judged(x, 20, 0, 2, 1);
        judged(x, 21, 1, -1, 2);
        judged(x, 21, 1, 2, 0);
        judged(x, 22, 2, 1, 0);
        judged(x, 22, 2, 1, -1);
        tellTerm(x, "(k<1)", 1, x.count(0));
        judged(x, -9, 0, 1, 2);
        judged(x, 0, 1, 0, 2);
        due("P28 none of both are not as many", x.judge(), -3);
        x.tell(1);
        due("P28 not as many", x.judge(), -3);
        due("P28 refused, it stays", x.count(18), 1);
        x.unput();
        due("P28 more than the row", x.judge(), -3);
        HouseKeepers y = new HouseKeepers();
        due("P28 both empty", y.judge(), -9);
    }

    private static void judged(HouseKeepers x, int want, int a, int b, int c) {
        x.tell(a);
        x.tell(b);
        x.tell(c);
        due("P28 judged " + a + " " + b + " " + c, x.judge(), want);
        due("P28 has none then", x.count(18), 0);
    }

    // Promise 29
    private static void whoElse() {
        HouseKeepers x = known();
        due("P29 no stay", x.whoElse(3), -1);
        due("P29 no stay below", x.whoElse(-1), -1);
        due("P29 not open", x.whoElse(0), -9);
        due("P29 like hours: the greatest trust", x.whoElse(2), 1);
        x.keeper(1, 255, 1, 0);
        due("P29 the least hours", x.whoElse(2), 3);
        x.keeper(1, 255, 1, 0);
        due("P29 of like ones the least", x.whoElse(2), 3);
        x.house(1, 0);
        x.stay(2, 20, 28);
        due("P29 take", x.take(0, 3), 1);
        due("P29 where one is on its first day: less trust", x.whoElse(2), 3);
        x.way(0, 1, 1);
        tellTerm(x, "(k<3)", 1, 5);
        due("P29 who may", x.whoElse(2), 0);
        tellTerm(x, "0", 1, 5);
        due("P29 none", x.whoElse(2), -9);
        x.cancel(2);
        due("P29 cancelled", x.whoElse(2), -9);
    }

    // Promise 30
    private static void place() {
        HouseKeepers x = new HouseKeepers();
        due("P30 nothing", x.place(10), 0);
        due("P30 nobody", x.place(11), 0);
        for (int t = 0; t < 3; t++) x.keeper(t, 1, 1, 0);
        for (int t = 0; t < 3; t++) x.house(t, 0);
        for (int h = 0; h < 3; h++) x.stay(h, 30, 31);
        for (int s = 2; s >= 0; s--) x.put(s);
        placed(x, 0, 3, 2, 1, 0);
        x.way(0, 1, 10);
        x.way(1, 2, 10);
        x.way(0, 2, 20);
        placed(x, 0, 3, 2, 1, 0);
        HouseKeepers y = new HouseKeepers();
        for (int k = 0; k < 3; k++) y.keeper(0, 1, 1, 0);
        for (int t = 1; t < 5; t++) y.house(t, t == 2 ? 2 : 0);
        for (int h = 0; h < 4; h++) y.stay(h, 30, 31);
        for (int s = 0; s < 4; s++) y.put(s);
        placed(y, 72, 3, 0, -9, 1, 2);
        y.way(0, 4, 5);
        placed(y, 53, 3, 0, -9, 1, 2);
        y.keeper(0, 2, 1, 0);
        placed(y, 77, 4, 0, 3, 1, 2);
        tellTerm(y, "(k=1)", 0, 0);
        placed(y, 77, 4, 1, 3, 0, 2);
        tellTerm(y, "(k=1)", 2, 0);
        placed(y, 53, 3, 1, 3, -9, 0);
        tellTerm(y, "0", -1, 0);
        tellTerm(y, "0", 0, 0);
        tellTerm(y, "0", 2, 0);
        placed(y, 0, 0, -9, -9, -9, -9);
    }

    private static void placed(HouseKeepers x, int hours, int howMany, int... who) {
        for (int i = 0; i < who.length; i++) due("P30 place " + i, x.place(i), who[i]);
        due("P30 hours", x.place(10), hours);
        due("P30 how many", x.place(11), howMany);
    }

    // Promise 31
    private static void group() {
        HouseKeepers x = new HouseKeepers();
        int[] marks = {10000, 0, 99999, 22, 2, 99998, 20000, 33333, 99888, 33344};
        int[] least = {0, 0, 2, 0, 0, 2, 0, 7, 8, 9};
        for (int mark : marks) x.keeper(0, 0, 1, mark);
        for (int k = 0; k < least.length; k++) due("P31 group of " + k, x.group(k), least[k]);
        due("P31 no keeper", x.group(10), -1);
        due("P31 no keeper below", x.group(-1), -1);
        x.keeper(0, 0, 1, 99988);
        due("P31 joined by a later one", x.group(8), 2);
        due("P31 the later one", x.group(10), 2);
    }

    // Promise 32
    private static void list() {
        HouseKeepers x = lonely();
        due("P32 no stay", x.list(1, false, -1), -1);
        due("P32 not taken", x.list(0, false, -1), -3);
        x.take(0, 0);
        due("P32 below", x.list(0, false, -1), -4);
        due("P32 not over", x.list(0, true, -1), -3);
        due("P32 told", x.list(0, false, 1), 1);
        x.days(5);
        due("P32 on its first day another one", x.list(0, false, Integer.MAX_VALUE), 0);
        x.days(1);
        due("P32 too late", x.list(0, false, 0), -3);
        due("P32 not over on its last day", x.list(0, true, 0), -3);
        x.days(1);
        due("P32 below after", x.list(0, true, Integer.MIN_VALUE), -4);
        due("P32 after", x.list(0, true, 0), 1);
        due("P32 another after", x.list(0, true, 0), 0);
        x.days(900);
        due("P32 late after", x.list(0, true, 1), 0);
        x.stay(0, 1000, 1000);
        x.take(0, 1);
        x.cancel(1);
        due("P32 cancelled", x.list(1, false, 1), -3);
    }

    // Promise 33
    private static void look() {
        HouseKeepers x = lonely();
        due("P33 no house", x.look(1, -1, -1), -1);
        due("P33 item below", x.look(0, -1, 10), -4);
        due("P33 below", x.look(0, 31, -1), -4);
        due("P33 item above", x.look(0, 31, 0), -6);
        due("P33 above", x.look(0, 0, 10), -6);
        due("P33 first", x.look(0, 30, 9), 1);
        due("P33 then", x.look(0, 30, 0), 9);
        due("P33 then 0", x.look(0, 30, 1), 0);
        due("P33 another item", x.look(0, 29, 1), 1);
    }

    // Promise 34
    private static void gone() {
        HouseKeepers x = lonely();
        due("P34 no stay", x.gone(1), -1);
        due("P34 none told", x.gone(0), -9);
        x.take(0, 0);
        x.list(0, false, 0b1011);
        due("P34 one told", x.gone(0), -9);
        x.days(9);
        x.list(0, true, 0b0110);
        due("P34 gone", x.gone(0), 0b1001);
        x.list(0, true, Integer.MAX_VALUE);
        due("P34 nothing", x.gone(0), 0);
    }

    // Promise 35
    private static void claim() {
        HouseKeepers x = lonely();
        due("P35 no stay", x.claim(1), -1);
        due("P35 none told", x.claim(0), -3);
        x.take(0, 0);
        x.list(0, false, Integer.MAX_VALUE);
        due("P35 one told", x.claim(0), -3);
        x.days(9);
        x.list(0, true, 0);
        due("P35 all items", x.claim(0), 31 * 15);
        x.look(0, 30, 9);
        x.look(0, 0, 0);
        due("P35 by looks", x.claim(0), 31 * 15 + 80 - 10);
        x.list(0, true, Integer.MAX_VALUE - 1);
        due("P35 a look of 0", x.claim(0), 5);
        x.list(0, true, Integer.MAX_VALUE);
        due("P35 nothing", x.claim(0), 0);
    }

    // Promise 36
    private static void count() {
        HouseKeepers x = known();
        x.cancel(2);
        x.stay(1, 10, 10);
        x.feed(3, 0);
        x.put(0);
        x.put(0);
        x.tell(0);
        x.town(99, 0);
        for (int i = 0; i < 2; i++) x.stayOf(0, 99);
        for (int i = 0; i < 3; i++) x.bound(0, 99);
        for (int i = 0; i < 4; i++) x.claim(0);
        for (int i = 0; i < 5; i++) x.days(0);
        for (int i = 0; i < 6; i++) x.days(9999);
        int[] want = {5, 3, 2, 4, 1, 2, 1, 0, 4, 4, 3, 1, 5, 4, 5, 0, 6, 2, 1};
        for (int what = 0; what < want.length; what++) due("P36 count " + what, x.count(what), want[what]);
        due("P36 another what", x.count(19), -9);
        due("P36 another what below", x.count(-1), -9);
        x.days(10);
        x.stay(0, 17, 17);
        x.take(2, 4);
        x.days(3);
        x.review(4, true, 1);
        due("P36 reviews", x.count(8), 5);
        due("P36 those that count", x.count(9), 4);
        tellTerm(x, "1", -1, 20);
        due("P36 the tape had three bytes more", x.count(7), 0);
        tellTerm(x, "1", -1, 20);
        due("P36 terms", x.count(7), 1);
    }
}
