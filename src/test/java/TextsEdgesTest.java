/** The edges of promises 14 to 16: the tape, texts and their faults, terms in force, their worth. */
public final class TextsEdgesTest {
    private static final int FAR = 1000000000;
    private static final Check C = new Check();

    public static void main(String[] args) {
        feedCounts();
        feedBytes();
        everyShortText("1t(<)+", 6);
        everyShortText("9*/->=", 5);
        everyByte();
        numbers();
        brackets();
        compares();
        longTexts();
        termDays();
        termHouses();
        termsFull();
        tapeAfterTerm();
        inForce();
        steps();
        held();
        letterBounds();
        lettersKnownNow();
        letterZ();
        letterZJustBelow();
        worthOfAnyStay();
        C.finish("TextsEdgesTest");
    }

    private static void due(String what, long got, long want) {
        C.due(what, got, want);
    }

    /** A keeper 0, a house 0 in its town, and a stay 0 from day 5 to 6. */
    private static HouseKeepers lonely() {
        HouseKeepers x = new HouseKeepers();
        x.keeper(0, 0, 1, 0);
        x.house(0, 0);
        x.stay(0, 5, 6);
        return x;
    }

    private static int term(HouseKeepers x, String text, int house, int day) {
        Check.feedText(x, text);
        return x.term(house, day);
    }

    // Promise 14
    private static void feedCounts() {
        for (int n = 1; n <= 8; n++) due("P14 " + n, new HouseKeepers().feed(n, 0), n);
        HouseKeepers x = new HouseKeepers();
        due("P14 0", x.feed(0, 0), -4);
        due("P14 9", x.feed(9, 0), -6);
        due("P14 the tape is empty still", x.count(10), 0);
        for (int i = 1; i <= 7; i++) x.feed(8, 0);
        due("P14 56 and 5 are above 60", x.feed(5, 0), -6);
        due("P14 56 and 8 are above 60", x.feed(8, 0), -6);
        due("P14 56 and 3", x.feed(3, 0), 59);
        due("P14 59 and 2 are above 60", x.feed(2, 0), -6);
        due("P14 59 and 1", x.feed(1, 0), 60);
        due("P14 60 and 1 are above 60", x.feed(1, 0), -6);
        due("P14 60 and 9", x.feed(9, 0), -6);
        due("P14 60 and 0", x.feed(0, 0), -4);
        due("P14 on the tape", x.count(10), 60);
        HouseKeepers y = new HouseKeepers();
        for (int i = 1; i <= 60; i++) due("P14 one by one", y.feed(1, 255), i);
        due("P14 no 61st", y.feed(1, 255), -6);
    }

    private static void feedBytes() {
        HouseKeepers x = lonely();
        x.feed(8, Check.packed("10000+(2", 0, 8));
        x.feed(2, 0xffffffffffff0000L | Check.packed("0)", 0, 2));
        due("P14 the lowest first, the highest is the eighth", x.term(0, 0), 1);
        due("P14 and bytes that were not told are none", x.worth(0, 0), 10020);
        HouseKeepers y = lonely();
        y.feed(8, 0x8031313131313131L);
        due("P14 an eighth byte above 127", y.term(0, 0), -25);
        HouseKeepers z = lonely();
        z.feed(8, Check.packed("1+1+1+1+", 0, 8));
        z.feed(1, 0xff31);
        due("P14 one byte of a long", z.term(0, 0), 1);
        due("P14 its worth", z.worth(0, 0), 5);
    }

    /** Where a text breaks, told by a machine that reads byte by byte; -1 if it does not. */
    private static int faultOf(String text) {
        boolean[] compared = new boolean[7];
        int depth = 0;
        int digits = 0;
        boolean wantsUnit = true;
        for (int i = 0; i < text.length(); i++) {
            char sign = text.charAt(i);
            boolean isDigit = sign >= '0' && sign <= '9';
            if (wantsUnit) {
                if (isDigit || "tnpbdlhkyz".indexOf(sign) >= 0) {
                    wantsUnit = false;
                    digits = isDigit ? 1 : 5;
                } else if (sign == '(' && depth < 5) {
                    compared[++depth] = false;
                } else {
                    return i;
                }
            } else if (isDigit && digits < 5) {
                digits++;
            } else if ("+-*/".indexOf(sign) >= 0) {
                wantsUnit = true;
            } else if ("<=>".indexOf(sign) >= 0 && depth > 0 && !compared[depth]) {
                compared[depth] = true;
                wantsUnit = true;
            } else if (sign == ')' && depth > 0) {
                depth--;
                digits = 5;
            } else {
                return i;
            }
        }
        return wantsUnit || depth > 0 ? text.length() : -1;
    }

    // Promise 15
    private static void fault(String text, int place) {
        HouseKeepers x = lonely();
        due("P15 fault of " + text, term(x, text, 0, 0), place < 0 ? 1 : -20 - place);
        due("P15 terms after " + text, x.count(7), place < 0 ? 1 : 0);
        due("P15 the tape after " + text, x.count(10), 0);
    }

    private static void everyShortText(String signs, int longest) {
        int texts = 1;
        for (int length = 0; length <= longest; length++) {
            for (int number = 0; number < texts; number++) {
                StringBuilder text = new StringBuilder();
                for (int rest = number, i = 0; i < length; i++, rest /= signs.length()) {
                    text.append(signs.charAt(rest % signs.length()));
                }
                fault(text.toString(), faultOf(text.toString()));
            }
            texts *= signs.length();
        }
    }

    private static void everyByte() {
        for (int sign = 0; sign < 256; sign++) {
            String text = "" + (char) sign;
            fault(text, faultOf(text));
            fault("1" + text, faultOf("1" + text));
            fault("t" + text, faultOf("t" + text));
            fault("(1" + text, faultOf("(1" + text));
            fault("(1<2" + text, faultOf("(1<2" + text));
            fault("1+" + text, faultOf("1+" + text));
        }
    }

    private static void numbers() {
        fault("0", -1);
        fault("00000", -1);
        fault("99999", -1);
        fault("000000", 5);
        fault("100000", 5);
        fault("1+123456", 7);
        fault("(123456)", 6);
        fault("(1<123456)", 8);
        fault("12345+12345", -1);
        worth("00000", 0);
        worth("99999", 99999);
        worth("00007", 7);
    }

    private static void brackets() {
        fault("(((((1)))))", -1);
        fault("((((((1))))))", 5);
        fault("((((((", 5);
        fault("(((((", 5);
        fault("(((((1", 6);
        fault("(((((1))))", 10);
        fault("(((((1))))))", 11);
        fault("((((1)+(((1)))))", 9);
        fault("((((1)+((1)))))", -1);
        fault("((((1)+((1))))", 14);
        fault("((((1)+(1))))", -1);
        fault("((((1<(1)))))", -1);
        fault("((((1<((1))))))", 7);
        fault("(((((1)))))*(((((1)))))", -1);
        fault("(((((1)))))*((((((1))))))", 17);
        fault("(((((1<2)=1)=1)=1)=1)", -1);
        worth("(((((1<2)=1)=1)=1)=1)", 1);
        worth("(((((7)))))", 7);
    }

    private static void compares() {
        for (char sign : "<=>".toCharArray()) {
            fault("1" + sign + "2", 1);
            fault("(1" + sign + "2)", -1);
            fault("(1" + sign + "2" + sign + "3)", 4);
            fault("(1" + sign + ")", 3);
            fault("(" + sign + "1)", 1);
            fault("(1" + sign + sign + "2)", 3);
            fault("(1" + sign + "(2" + sign + "3))", -1);
            fault("(1" + sign + "2", 4);
            fault("(1" + sign, 3);
        }
        worth("(0-1<0)", 1);
        worth("(0<0)", 0);
        worth("(1<0)", 0);
        worth("(0-1=0)", 0);
        worth("(0=0)", 1);
        worth("(1=0)", 0);
        worth("(0-1>0)", 0);
        worth("(0>0)", 0);
        worth("(1>0)", 1);
        worth("(1+2<2*2)", 1);
        worth("(2<1)-(1<2)", -1);
    }

    private static void longTexts() {
        String ones = "1+".repeat(29);
        fault(ones + "11", -1);
        fault(ones + "1+", 60);
        worth(ones + "11", 40);
        worth("(1+".repeat(5) + "9-".repeat(19) + "t)))))", 5 + 9 - 9 * 18);
        worth("9*".repeat(29) + "99", FAR);
    }

    private static void termDays() {
        HouseKeepers x = lonely();
        due("P15 now", term(x, "1", 0, 0), 1);
        due("P15 ahead of now", term(x, "1", 0, -1), -4);
        due("P15 the last day", x.term(0, 1500), 2);
        due("P15 behind the last day", term(x, "1", 0, 1501), -6);
        x.days(700);
        due("P15 yesterday", x.term(0, 699), -4);
        due("P15 today", x.term(0, 700), 3);
        x.days(800);
        due("P15 on the last day", term(x, "1", 0, 1500), 4);
        due("P15 the day ahead of it", term(x, "1", 0, 1499), -4);
        due("P15 none behind it", x.term(0, 1501), -6);
    }

    private static void termHouses() {
        HouseKeepers x = new HouseKeepers();
        due("P15 for all, though there is no house", term(x, "1", -1, 0), 1);
        due("P15 no house 0", term(x, "1", 0, 0), -1);
        due("P15 -2 is no house", x.term(-2, 0), -1);
        for (int h = 0; h < 20; h++) x.house(0, 0);
        due("P15 house 0", x.term(0, 0), 2);
        due("P15 house 19", term(x, "1", 19, 0), 3);
        due("P15 no house 20", term(x, "1", 20, 0), -1);
    }

    private static void termsFull() {
        HouseKeepers x = lonely();
        for (int t = 1; t <= 29; t++) due("P15 number " + t, term(x, "1", 0, 0), t);
        due("P15 a fault is not counted", term(x, "+", 0, 0), -20);
        due("P15 a 30th", term(x, "30", 0, 0), 30);
        due("P15 a 31st", term(x, "31", 0, 0), -6);
        due("P15 refused, the tape stays", x.count(10), 2);
        due("P15 the 30th is in force", x.worth(0, 0), 30);
        due("P15 how many", x.count(7), 30);
    }

    private static void tapeAfterTerm() {
        HouseKeepers x = lonely();
        Check.feedText(x, "5");
        due("P15 refused", x.term(9, 0), -1);
        Check.feedText(x, "7");
        due("P15 the tape stayed", x.term(0, 0), 1);
        due("P15 with both bytes", x.worth(0, 0), 57);
        due("P15 none any more", x.term(0, 0), -20);
        Check.feedText(x, "9+");
        due("P15 a fault", x.term(0, 0), -22);
        due("P15 none after it, too", x.count(10), 0);
        due("P15 the first is in force still", x.worth(0, 0), 57);
        for (int i = 0; i < 60; i++) x.feed(1, i % 2 == 0 ? '1' : '*');
        due("P15 a full tape with a fault", x.term(0, 0), -80);
        due("P15 has room again", x.feed(8, 0), 8);
    }

    private static void inForce() {
        HouseKeepers x = lonely();
        x.house(0, 0);
        x.stay(1, 1400, 1400);
        term(x, "11", -1, 1);
        due("P16 from tomorrow on", x.worth(0, 1), 1);
        x.days(1);
        due("P16 from today on", x.worth(0, 1), 11);
        term(x, "12", -1, 1500);
        term(x, "13", -1, 3);
        term(x, "14", -1, 2);
        x.days(1);
        due("P16 the latest that has begun", x.worth(0, 1), 14);
        x.days(1);
        due("P16 the latest day, though told ahead", x.worth(0, 1), 13);
        term(x, "15", -1, 3);
        due("P16 of one day the one told last", x.worth(0, 1), 15);
        term(x, "16", 0, 3);
        due("P16 another house's own", x.worth(0, 1), 15);
        term(x, "17", 1, 4);
        due("P16 its own is for tomorrow", x.worth(0, 1), 15);
        x.days(1);
        due("P16 its own", x.worth(0, 1), 17);
        term(x, "18", -1, 4);
        due("P16 its own still", x.worth(0, 1), 17);
        x.days(1396);
        due("P16 its own, though one for all is later", x.worth(0, 1), 17);
        due("P16 house 0 has its own, too", x.worth(0, 0), 16);
        due("P15 how many were told", x.count(7), 8);
    }

    private static void worth(String text, int want) {
        HouseKeepers x = lonely();
        term(x, text, 0, 0);
        due("P16 worth of " + text, x.worth(0, 0), want);
    }

    // Promise 16
    private static void steps() {
        worth("1/0", 0);
        worth("0/0", 0);
        worth("(0-5)/0", 0);
        worth("5/0*3+2", 2);
        worth("5/(1-1)", 0);
        worth("7/2", 3);
        worth("(0-7)/2", -3);
        worth("7/(0-2)", -3);
        worth("(0-7)/(0-2)", 3);
        worth("1/2", 0);
        worth("(0-1)/2", 0);
        worth("9-3-2", 4);
        worth("9-(3-2)", 8);
        worth("8/4/2", 1);
        worth("8/(4/2)", 4);
        worth("7/2*2", 6);
        worth("7*2/2", 7);
        worth("2*7/4", 3);
        worth("1+2*3-4/2", 5);
        worth("1-2*3", -5);
        worth("(1-2)*3", -3);
    }

    private static void held() {
        worth("10000*50000*2", FAR);
        worth("10000*50000*2-1", FAR - 1);
        worth("20000*50000", FAR);
        worth("20000*50000+1", FAR);
        worth("20000*50000+1-1", FAR - 1);
        worth("20000*50000-1+1", FAR);
        worth("20000*50001", FAR);
        worth("20000*50001-20000*50000", 0);
        worth("0-20000*50000", -FAR);
        worth("0-20000*50000-1", -FAR);
        worth("0-20000*50000-1+1", 1 - FAR);
        worth("(0-20000)*50001", -FAR);
        worth("20000*50000*(0-1)", -FAR);
        worth("(0-20000*50000)*(20000*50000)", -FAR);
        worth("(0-20000*50000)*(0-20000*50000)", FAR);
        worth("20000*50000*99999/99999", 10000);
        worth("(20000*50000+1=20000*50000)", 1);
        worth("(99999*99999=20000*50000)", 1);
        worth("(0-20000*50000)/(0-1)", FAR);
        worth("99999*9999", 999890001);
        worth("99999*10000", 999990000);
        worth("99999*10000+9999", 999999999);
        worth("99999*10000+10000", FAR);
        worth("99999*10000+10001", FAR);
    }

    private static void letterBounds() {
        HouseKeepers x = new HouseKeepers();
        for (int k = 0; k < 20; k++) x.keeper(0, 255, 1 + k % 2, 0);
        for (int h = 0; h < 20; h++) x.house(h % 10, (1 << h % 9) - 1);
        for (int town = 0; town < 10; town++) x.town(town, town % 5);
        x.stay(0, 1, 1);
        x.stay(19, 1500, 1500);
        x.stay(8, 1, 1500);
        int[] stays = {0, 1, 2};
        int[] b = {0, 1, 8};
        int[] d = {1, 1, 1500};
        int[] l = {0, 4, 3};
        int[] h = {0, 19, 8};
        int[] y = {1, 1500, 1};
        for (int s : stays) {
            letter(x, "b", 0, s, b[s]);
            letter(x, "d", 0, s, d[s]);
            letter(x, "l", 0, s, l[s]);
            letter(x, "h", 0, s, h[s]);
            letter(x, "y", 0, s, y[s]);
        }
        letter(x, "k", 0, 0, 0);
        letter(x, "k", 19, 0, 19);
        letter(x, "p", 0, 0, 1);
        letter(x, "p", 19, 0, 2);
        letter(x, "t", 0, 0, 0);
        letter(x, "n", 0, 0, 0);
        letter(x, "z", 0, 0, 0);
    }

    /** Asked of an object with terms to spare. */
    private static void letter(HouseKeepers x, String text, int keeper, int stay, int want) {
        term(x, text, -1, x.count(0));
        due("P16 letter " + text + " of stay " + stay, x.worth(keeper, stay), want);
    }

    private static void lettersKnownNow() {
        HouseKeepers x = lonely();
        x.keeper(0, 0, 2, 11111);
        x.take(0, 0);
        x.stay(0, 22, 24);
        x.days(7);
        letter(x, "n", 0, 1, 0);
        x.review(0, true, 5);
        letter(x, "n", 0, 1, 0);
        x.days(13);
        letter(x, "n", 0, 1, 0);
        letter(x, "y", 0, 1, 2);
        x.days(1);
        letter(x, "n", 0, 1, 1);
        letter(x, "y", 0, 1, 1);
        x.days(1);
        letter(x, "y", 0, 1, 0);
        letter(x, "n", 1, 1, 0);
        x.days(3);
        letter(x, "y", 0, 1, -3);
    }

    /** House 0 gave keeper 0 a 1 and keeper 4 a 5: keeper 0's trust is -100, keeper 4's is 100. */
    private static void letterZ() {
        HouseKeepers x = new HouseKeepers();
        int[] marks = {0, 10000, 1, 11000, 0, 99999, 9, 90000, 99};
        int[] z = {0, 1, 1, 0, 1, 0, 1, 1, 0};
        for (int mark : marks) x.keeper(0, 0, 1, mark);
        x.house(0, 0);
        x.house(0, 0);
        x.stay(0, 1, 1);
        x.stay(0, 2, 2);
        x.stay(1, 100, 100);
        x.take(0, 0);
        x.take(4, 1);
        x.days(3);
        x.review(0, true, 1);
        x.review(1, true, 5);
        term(x, "z", -1, 3);
        for (int k = 0; k < marks.length; k++) due("P16 z while shut, of " + k, x.worth(k, 2), 0);
        x.days(14);
        for (int k = 0; k < marks.length; k++) due("P16 z of " + k, x.worth(k, 2), z[k]);
        due("P19 trust below 0", x.trust(0, 17), -100);
        due("P19 trust above 0", x.trust(4, 17), 100);
    }

    /** Keeper 0 and keeper 1 are alike; keeper 0's trust is -1, then 0. */
    private static void letterZJustBelow() {
        HouseKeepers x = new HouseKeepers();
        int[] marks = {0, 5, 99999};
        for (int mark : marks) x.keeper(0, 0, 1, mark);
        x.house(0, 0);
        x.house(0, 0);
        int[][] given = {{0, 0, 3}, {0, 0, 3}, {2, 0, 4}, {0, 1, 3}, {2, 1, 3}, {2, 1, 2}, {2, 1, 2}, {2, 1, 2}};
        for (int[] one : given) {
            int stay = x.stay(one[1], x.count(0) + 1, x.count(0) + 1);
            x.take(one[0], stay);
            x.days(2);
            x.review(stay, true, one[2]);
            x.review(stay, false, 3);
        }
        int asked = x.stay(0, 100, 100);
        term(x, "z", 0, 16);
        due("P18 333", x.hand(0, 16), 333);
        due("P18 240", x.hand(1, 16), 240);
        due("P19 -33 and -33 and 60 by 4, cut toward 0", x.trust(0, 16), -1);
        due("P16 z by a trust of -1", x.worth(1, asked), 1);
        due("P16 not of itself", x.worth(0, asked), 0);
        int stay = x.stay(1, 17, 17);
        x.take(2, stay);
        x.days(2);
        x.review(stay, true, 2);
        x.review(stay, false, 3);
        due("P18 233", x.hand(1, 18), 233);
        due("P19 -33 and -33 and 67 by 4", x.trust(0, 18), 0);
        due("P16 z by a trust of 0", x.worth(1, asked), 0);
    }

    private static void worthOfAnyStay() {
        HouseKeepers x = lonely();
        due("P16 without a term", x.worth(0, 0), 1);
        term(x, "d-9", 0, 0);
        due("P16 open", x.worth(0, 0), -7);
        term(x, "d", 0, 0);
        x.take(0, 0);
        due("P16 taken", x.worth(0, 0), 2);
        x.cancel(0);
        due("P16 cancelled", x.worth(0, 0), 2);
        x.days(9);
        due("P16 over", x.worth(0, 0), 2);
        due("P16 no keeper", x.worth(1, 0), FAR + 1);
        due("P16 no stay", x.worth(0, 1), FAR + 1);
        due("P16 no stay below", x.worth(0, -1), FAR + 1);
    }
}
