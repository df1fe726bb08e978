import java.util.Arrays;

/**
 * Keepers of houses: stays by days, who may take them and why not, chains, pairs and places,
 * reviews both ways, lists and claims. The document's numbered promises say what each call answers.
 */
public final class HouseKeepers {
    private static final int NOBODY = -1;
    private static final int OTHER = -2;
    private static final int STATE = -3;
    private static final int BELOW = -4;
    private static final int ROOM = -6;
    private static final int NONE = -9;
    /** Where an answer may be below 0, a refusal stands above every answer: this less its number. */
    private static final int BEYOND_ANSWERS = 1000000000;
    private static final int FIRST_FAULT = -20;
    private static final int LAST_DAY = 1500;
    private static final int GREATEST_BEASTS = 255;
    private static final int GREATEST_OF_ROW = 99;

    private final int[] refusals = new int[7];
    private final Towns towns = new Towns();
    private final Keepers keepers = new Keepers();
    private final Houses houses = new Houses();
    private final Stays stays = new Stays();
    private final Reviews reviews = new Reviews(stays);
    private final Terms terms = new Terms();
    private final Row tape = new Row(Text.LONGEST);
    private final Text text = new Text(tape);
    private final Row row = new Row(12);
    private final Row told = new Row(Match.MOST);
    private final Rules rules = new Rules(towns, keepers, houses, stays, reviews, terms);
    private final Chain chain = new Chain(stays, rules);
    private final Match match = new Match(keepers, stays, reviews, rules);

    public HouseKeepers() {
    }

    public int days(int n) {
        if (n < 1) return refuse(BELOW);
        if (n > LAST_DAY - stays.now) return refuse(ROOM);
        stays.now += n;
        return stays.now;
    }

    public int town(int town, int land) {
        if (!towns.hasTown(town) || !towns.hasLand(land)) return refuse(NOBODY);
        int old = towns.land[town];
        towns.land[town] = land;
        return old;
    }

    public int way(int a, int b, int hours) {
        if (!towns.hasTown(a) || !towns.hasTown(b) || a == b) return refuse(NOBODY);
        int refusal = boundRefusal(hours, 1, 240);
        if (refusal != 0) return refuse(refusal);
        int old = towns.hours[a][b];
        towns.hours[a][b] = hours;
        towns.hours[b][a] = hours;
        return old;
    }

    public int limit(int land, int days) {
        if (!towns.hasLand(land)) return refuse(NOBODY);
        int refusal = boundRefusal(days, 0, 180);
        if (refusal != 0) return refuse(refusal);
        int old = towns.limit[land];
        towns.limit[land] = days;
        return old;
    }

    public int keeper(int town, int beasts, int persons, int marks) {
        if (!towns.hasTown(town)) return refuse(NOBODY);
        if (beasts < 0 || persons < 1 || marks < 0) return refuse(BELOW);
        if (beasts > GREATEST_BEASTS || persons > 2 || marks > 99999) return refuse(ROOM);
        if (keepers.count >= Keepers.MOST) return refuse(ROOM);
        return keepers.add(town, beasts, persons, marks);
    }

    public int house(int town, int beasts) {
        if (!towns.hasTown(town)) return refuse(NOBODY);
        int refusal = boundRefusal(beasts, 0, GREATEST_BEASTS);
        if (refusal != 0) return refuse(refusal);
        if (houses.count >= Houses.MOST) return refuse(ROOM);
        return houses.add(town, beasts);
    }

    public int stay(int house, int from, int to) {
        if (!houses.has(house)) return refuse(NOBODY);
        if (from <= stays.now || to < from) return refuse(BELOW);
        if (to > LAST_DAY || stays.count >= Stays.MOST) return refuse(ROOM);
        if (stays.isHouseKept(house, from, to)) return refuse(STATE);
        return stays.add(house, from, to);
    }

    public int stayOf(int stay, int what) {
        if (!stays.has(stay)) return refuse(NOBODY);
        switch (what) {
            case 0: return stays.house[stay];
            case 1: return stays.from[stay];
            case 2: return stays.to[stay];
            case 3: return stays.state[stay];
            case 4: return stays.keeper[stay];
            case 5: return stays.isOver(stay) ? 1 : 0;
            default: return refuse(OTHER);
        }
    }

    public int why(int keeper, int stay) {
        if (!keepers.has(keeper) || !stays.has(stay)) return refuse(NOBODY);
        return rules.whyNot(keeper, stay);
    }

    public int take(int keeper, int stay) {
        if (!keepers.has(keeper) || !stays.has(stay)) return refuse(NOBODY);
        if (rules.whyNot(keeper, stay) != Rules.MAY) return refuse(STATE);
        stays.state[stay] = Stays.TAKEN;
        stays.keeper[stay] = keeper;
        return 1;
    }

    public int cancel(int stay) {
        if (!stays.has(stay)) return refuse(NOBODY);
        if (stays.isOver(stay) || stays.state[stay] == Stays.CANCELLED) return refuse(STATE);
        stays.state[stay] = Stays.CANCELLED;
        return stays.keeper[stay];
    }

    public int where(int keeper, int day) {
        if (!keepers.has(keeper)) return refuse(NOBODY);
        int refusal = boundRefusal(day, 0, LAST_DAY);
        if (refusal != 0) return refuse(refusal);
        return rules.townOn(keeper, day);
    }

    public int feed(int n, long bytes) {
        int refusal = boundRefusal(n, 1, 8);
        if (refusal != 0) return refuse(refusal);
        if (!tape.hasRoomFor(n)) return refuse(ROOM);
        for (int i = 0; i < n; i++) tape.add((int) (bytes >>> (8 * i)) & 255);
        return tape.size;
    }

    public int term(int house, int day) {
        if (house != Terms.FOR_ALL && !houses.has(house)) return refuse(NOBODY);
        int refusal = boundRefusal(day, stays.now, LAST_DAY);
        if (refusal != 0) return refuse(refusal);
        if (terms.count >= Terms.MOST) return refuse(ROOM);
        int fault = text.read();
        tape.clear();
        return fault == Text.SOUND ? terms.add(house, day, text) : FIRST_FAULT - fault;
    }

    public int worth(int keeper, int stay) {
        if (!keepers.has(keeper) || !stays.has(stay)) return refuseBeyond(NOBODY);
        return rules.worthOfTerm(keeper, stay);
    }

    public int review(int stay, boolean ofKeeper, int stars) {
        if (!stays.has(stay)) return refuse(NOBODY);
        int side = ofKeeper ? Reviews.OF_KEEPER : Reviews.OF_HOUSE;
        if (!reviews.mayBeTold(side, stay)) return refuse(STATE);
        int refusal = boundRefusal(stars, 1, 5);
        if (refusal != 0) return refuse(refusal);
        reviews.add(side, stay, stars);
        return reviews.isCounting(side, stay, stays.now) ? 1 : 0;
    }

    public int hand(int house, int k) {
        if (!houses.has(house)) return refuse(NOBODY);
        int refusal = boundRefusal(k, 0, stays.now);
        if (refusal != 0) return refuse(refusal);
        reviews.know(k);
        return reviews.hand[house];
    }

    public int trust(int keeper, int k) {
        if (!keepers.has(keeper)) return refuseBeyond(NOBODY);
        int refusal = boundRefusal(k, 0, stays.now);
        if (refusal != 0) return refuseBeyond(refusal);
        reviews.know(k);
        return reviews.trust[keeper];
    }

    public int bound(int keeper, int what) {
        if (!keepers.has(keeper)) return refuseBeyond(NOBODY);
        if (what != 0 && what != 1) return refuseBeyond(OTHER);
        reviews.know(stays.now);
        int width = reviews.doubtOf(keeper);
        return what == 0 ? reviews.trust[keeper] - width : reviews.trust[keeper] + width;
    }

    public int stars(int house, int k) {
        if (!houses.has(house)) return refuse(NOBODY);
        int refusal = boundRefusal(k, 0, stays.now);
        if (refusal != 0) return refuse(refusal);
        return reviews.meanOfHouse(house, k);
    }

    public int put(int v) {
        return putInto(row, v);
    }

    public int unput() {
        int had = row.size;
        row.clear();
        return had;
    }

    public int chain(int keeper, int what) {
        if (!keepers.has(keeper) || !rowHasStaysAlone()) return refuse(NOBODY);
        if (what != 0 && what != 1) return refuse(OTHER);
        if (!rowIsOpenAndSingle()) return refuse(STATE);
        if (row.size > Chain.MOST) return refuse(ROOM);
        chain.find(keeper, row);
        return what == 0 ? chain.bestDays : chain.bestSet;
    }

    public int wish(int keeper, int land, int v) {
        if (!keepers.has(keeper) || !towns.hasLand(land)) return refuse(NOBODY);
        int refusal = boundRefusal(v, 0, 99);
        if (refusal != 0) return refuse(refusal);
        int old = keepers.wish[keeper][land];
        keepers.wish[keeper][land] = v;
        return old;
    }

    public int pair(int i) {
        int refusal = rowRefusal();
        if (refusal != 0) return refuse(refusal);
        if (i < 0 || i >= row.size) return refuse(OTHER);
        match.survey(row);
        match.makePairs();
        return match.chosen[i];
    }

    public int tell(int v) {
        return putInto(told, v);
    }

    public int judge() {
        int refusal = rowRefusal();
        if (refusal != 0) return refuse(refusal);
        if (told.size != row.size) return refuse(STATE);
        match.survey(row);
        int verdict = match.verdictOn(told);
        told.clear();
        return verdict;
    }

    public int whoElse(int stay) {
        if (!stays.has(stay)) return refuse(NOBODY);
        return match.nearestFor(stay);
    }

    public int place(int i) {
        int refusal = rowRefusal();
        if (refusal != 0) return refuse(refusal);
        boolean isPlace = i >= 0 && i < row.size;
        if (!isPlace && i != 10 && i != 11) return refuse(OTHER);
        match.survey(row);
        match.makePlaces();
        if (isPlace) return match.chosen[i];
        return i == 10 ? match.hoursInAll : match.placedInAll;
    }

    public int group(int keeper) {
        if (!keepers.has(keeper)) return refuse(NOBODY);
        return keepers.leastOfGroup(keeper);
    }

    public int list(int stay, boolean after, int items) {
        if (!stays.has(stay)) return refuse(NOBODY);
        boolean inTime = after ? stays.isOver(stay) : stays.now <= stays.from[stay];
        if (stays.state[stay] != Stays.TAKEN || !inTime) return refuse(STATE);
        if (items < 0) return refuse(BELOW);
        int[] lists = after ? stays.after : stays.before;
        int answer = lists[stay] == Stays.UNTOLD ? 1 : 0;
        lists[stay] = items;
        return answer;
    }

    public int look(int house, int item, int v) {
        if (!houses.has(house)) return refuse(NOBODY);
        if (item < 0 || v < 0) return refuse(BELOW);
        if (item >= Houses.ITEMS || v > 9) return refuse(ROOM);
        int old = houses.look[house][item];
        houses.look[house][item] = v;
        return old;
    }

    public int gone(int stay) {
        if (!stays.has(stay)) return refuse(NOBODY);
        return stays.hasBothLists(stay) ? stays.itemsGone(stay) : NONE;
    }

    public int claim(int stay) {
        if (!stays.has(stay)) return refuse(NOBODY);
        if (!stays.hasBothLists(stay)) return refuse(STATE);
        return houses.priceOf(stays.house[stay], stays.itemsGone(stay));
    }

    public int count(int what) {
        if (what >= 11 && what <= 16) return refusals[what - 10];
        switch (what) {
            case 0: return stays.now;
            case 1: return keepers.count;
            case 2: return houses.count;
            case 3: return stays.count;
            case 4: return stays.howMany(Stays.OPEN);
            case 5: return stays.howMany(Stays.TAKEN);
            case 6: return stays.howMany(Stays.CANCELLED);
            case 7: return terms.count;
            case 8: return reviews.count;
            case 9: return reviews.countingOn(stays.now);
            case 10: return tape.size;
            case 17: return row.size;
            case 18: return told.size;
            default: return NONE;
        }
    }

    private int refuse(int number) {
        int at = -number;
        if (at >= 0 && at < refusals.length) refusals[at]++;
        return number;
    }

    private int refuseBeyond(int number) {
        return BEYOND_ANSWERS - refuse(number);
    }

    /** The refusal that a number outside its bounds asks for, 0 within them. */
    private static int boundRefusal(int number, int least, int greatest) {
        if (number < least) return BELOW;
        return number > greatest ? ROOM : 0;
    }

    private int putInto(Row numbers, int v) {
        int refusal = boundRefusal(v, -1, GREATEST_OF_ROW);
        if (refusal != 0) return refuse(refusal);
        if (!numbers.hasRoomFor(1)) return refuse(ROOM);
        numbers.add(v);
        return numbers.size;
    }

    private boolean rowHasStaysAlone() {
        for (int i = 0; i < row.size; i++) {
            if (!stays.has(row.at(i))) return false;
        }
        return true;
    }

    /** Asked only of a row that has stays alone. */
    private boolean rowIsOpenAndSingle() {
        for (int i = 0; i < row.size; i++) {
            int stay = row.at(i);
            if (stays.state[stay] != Stays.OPEN || row.firstPlaceOf(stay) < i) return false;
        }
        return true;
    }

    private int rowRefusal() {
        if (!rowHasStaysAlone()) return NOBODY;
        if (!rowIsOpenAndSingle()) return STATE;
        return row.size > Match.MOST ? ROOM : 0;
    }

    /** Towns, the lands they are in, the hours between them, and how long one may be in a land. */
    private static final class Towns {
        static final int MOST = 10;
        static final int LANDS = 5;

        final int[] land = new int[MOST];
        final int[] limit = new int[LANDS];
        final int[][] hours = new int[MOST][MOST];

        Towns() {
            Arrays.fill(limit, 180);
            for (int a = 0; a < MOST; a++) {
                Arrays.fill(hours[a], 24);
                hours[a][a] = 0;
            }
        }

        boolean hasTown(int town) {
            return town >= 0 && town < MOST;
        }

        boolean hasLand(int land) {
            return land >= 0 && land < LANDS;
        }

        /** Days that the way takes, cut up. */
        int daysBetween(int a, int b) {
            return (hours[a][b] + 23) / 24;
        }
    }

    /** Accounts of keepers, and which of them look like one person's. */
    private static final class Keepers {
        static final int MOST = 20;
        private static final int DIGITS = 5;

        int count;
        final int[] town = new int[MOST];
        final int[] beasts = new int[MOST];
        final int[] persons = new int[MOST];
        final int[] marks = new int[MOST];
        final int[][] wish = new int[MOST][Towns.LANDS];

        boolean has(int keeper) {
            return keeper >= 0 && keeper < count;
        }

        /** Asked only while there is room. */
        int add(int firstTown, int mayKeep, int howMany, int digits) {
            int keeper = count++;
            town[keeper] = firstTown;
            beasts[keeper] = mayKeep;
            persons[keeper] = howMany;
            marks[keeper] = digits;
            return keeper;
        }

        boolean areAlike(int a, int b) {
            int restA = marks[a];
            int restB = marks[b];
            int different = 0;
            for (int i = 0; i < DIGITS; i++) {
                if (restA % 10 != restB % 10) different++;
                restA /= 10;
                restB /= 10;
            }
            return different <= 1;
        }

        int leastOfGroup(int keeper) {
            int group = 1 << keeper;
            for (int round = 0; round < MOST; round++) {
                int wider = withThoseAlike(group);
                if (wider == group) break;
                group = wider;
            }
            for (int k = 0; k < keeper; k++) {
                if ((group >> k & 1) == 1) return k;
            }
            return keeper;
        }

        private int withThoseAlike(int group) {
            int wider = group;
            for (int k = 0; k < count; k++) {
                if ((wider >> k & 1) == 0 && isAlikeToOneOf(group, k)) wider |= 1 << k;
            }
            return wider;
        }

        private boolean isAlikeToOneOf(int group, int keeper) {
            for (int k = 0; k < count; k++) {
                if ((group >> k & 1) == 1 && areAlike(k, keeper)) return true;
            }
            return false;
        }
    }

    /** Houses, their beasts, and how they look at items that are gone. */
    private static final class Houses {
        static final int MOST = 20;
        static final int ITEMS = 31;

        int count;
        final int[] town = new int[MOST];
        final int[] beasts = new int[MOST];
        final int[][] look = new int[MOST][ITEMS];

        Houses() {
            for (int house = 0; house < MOST; house++) Arrays.fill(look[house], 1);
        }

        boolean has(int house) {
            return house >= 0 && house < count;
        }

        /** Asked only while there is room. */
        int add(int inTown, int itsBeasts) {
            int house = count++;
            town[house] = inTown;
            beasts[house] = itsBeasts;
            return house;
        }

        int priceOf(int house, int items) {
            int price = 0;
            for (int item = 0; item < ITEMS; item++) {
                if ((items >> item & 1) == 1) price += 5 + 10 * look[house][item];
            }
            return price;
        }
    }

    /** The day that it is, stays by days, and the lists before and after them. */
    private static final class Stays {
        static final int MOST = 60;
        static final int OPEN = 0;
        static final int TAKEN = 1;
        static final int CANCELLED = 2;
        /** A list's items are never below 0. */
        static final int UNTOLD = -1;

        int now;
        int count;
        final int[] house = new int[MOST];
        final int[] from = new int[MOST];
        final int[] to = new int[MOST];
        final int[] state = new int[MOST];
        final int[] keeper = new int[MOST];
        final int[] before = new int[MOST];
        final int[] after = new int[MOST];

        Stays() {
            Arrays.fill(keeper, NONE);
            Arrays.fill(before, UNTOLD);
            Arrays.fill(after, UNTOLD);
        }

        boolean has(int stay) {
            return stay >= 0 && stay < count;
        }

        /** Asked only while there is room. */
        int add(int ofHouse, int first, int last) {
            int stay = count++;
            house[stay] = ofHouse;
            from[stay] = first;
            to[stay] = last;
            return stay;
        }

        boolean isOver(int stay) {
            return to[stay] < now;
        }

        boolean isTakenBy(int stay, int who) {
            return state[stay] == TAKEN && keeper[stay] == who;
        }

        int lengthOf(int stay) {
            return to[stay] - from[stay] + 1;
        }

        /** How many of the days first .. last are its own. */
        int daysWithin(int stay, int first, int last) {
            int begin = Math.max(from[stay], first);
            int end = Math.min(to[stay], last);
            return Math.max(end - begin + 1, 0);
        }

        boolean isHouseKept(int ofHouse, int first, int last) {
            for (int s = 0; s < count; s++) {
                boolean stands = house[s] == ofHouse && state[s] != CANCELLED;
                if (stands && daysWithin(s, first, last) > 0) return true;
            }
            return false;
        }

        int howMany(int inState) {
            int sum = 0;
            for (int s = 0; s < count; s++) {
                if (state[s] == inState) sum++;
            }
            return sum;
        }

        boolean hasBothLists(int stay) {
            return before[stay] != UNTOLD && after[stay] != UNTOLD;
        }

        int itemsGone(int stay) {
            return before[stay] & ~after[stay];
        }
    }

    /** Numbers in a row with a bound: the tape, the row of stays, the row of keepers. */
    private static final class Row {
        static final int END = -1;

        int size;
        private final int[] numbers;

        Row(int room) {
            numbers = new int[Math.max(room, 0)];
        }

        boolean hasRoomFor(int more) {
            return more <= numbers.length - size;
        }

        void add(int number) {
            if (size < numbers.length) numbers[size++] = number;
        }

        int at(int i) {
            return i >= 0 && i < size ? numbers[i] : END;
        }

        int firstPlaceOf(int number) {
            for (int i = 0; i < size; i++) {
                if (numbers[i] == number) return i;
            }
            return size;
        }

        void clear() {
            size = 0;
        }
    }

    /** Reviews both ways, and hands and trust as they are known on a day. */
    private static final class Reviews {
        static final int OF_KEEPER = 0;
        static final int OF_HOUSE = 1;
        /** Of a review that is not told: behind every day. */
        private static final int NEVER = LAST_DAY + 1;
        private static final int DAYS_TO_TELL = 30;
        private static final int DAYS_SHUT = 14;
        private static final int HAND_UNKNOWN = 300;
        private static final int WIDEST_DOUBT = 400;

        int count;
        final int[] hand = new int[Houses.MOST];
        final int[] trust = new int[Keepers.MOST];
        final int[] known = new int[Keepers.MOST];
        private final Stays stays;
        private final int[][] stars = new int[2][Stays.MOST];
        private final int[][] toldOn = new int[2][Stays.MOST];
        private final int[] given = new int[Houses.MOST];
        /** The day for which hand, trust and known stand. */
        private int knownOn = NEVER;

        Reviews(Stays stays) {
            this.stays = stays;
            Arrays.fill(toldOn[OF_KEEPER], NEVER);
            Arrays.fill(toldOn[OF_HOUSE], NEVER);
        }

        boolean mayBeTold(int side, int stay) {
            boolean inTime = stays.isOver(stay) && stays.now <= stays.to[stay] + DAYS_TO_TELL;
            return stays.state[stay] == Stays.TAKEN && inTime && toldOn[side][stay] == NEVER;
        }

        void add(int side, int stay, int howMany) {
            stars[side][stay] = howMany;
            toldOn[side][stay] = stays.now;
            count++;
            knownOn = NEVER;
        }

        boolean isCounting(int side, int stay, int day) {
            if (toldOn[side][stay] > day) return false;
            return toldOn[1 - side][stay] <= day || day > stays.to[stay] + DAYS_SHUT;
        }

        int countingOn(int day) {
            int sum = 0;
            for (int s = 0; s < stays.count; s++) {
                if (isCounting(OF_KEEPER, s, day)) sum++;
                if (isCounting(OF_HOUSE, s, day)) sum++;
            }
            return sum;
        }

        int meanOfHouse(int house, int day) {
            int sum = 0;
            int howMany = 0;
            for (int s = 0; s < stays.count; s++) {
                if (stays.house[s] == house && isCounting(OF_HOUSE, s, day)) {
                    sum += stars[OF_HOUSE][s];
                    howMany++;
                }
            }
            return howMany == 0 ? NONE : 100 * sum / howMany;
        }

        /** Half of the way between the bounds of trust, of what is known. */
        int doubtOf(int keeper) {
            return WIDEST_DOUBT / (known[keeper] + 1);
        }

        /** One pass for all, since trust of everyone needs the hand of every house. */
        void know(int day) {
            if (day == knownOn) return;
            knownOn = day;
            knowHands(day);
            knowTrust(day);
        }

        private void knowHands(int day) {
            Arrays.fill(given, 0);
            Arrays.fill(hand, 0);
            for (int s = 0; s < stays.count; s++) {
                if (isCounting(OF_KEEPER, s, day)) {
                    hand[stays.house[s]] += 100 * stars[OF_KEEPER][s];
                    given[stays.house[s]]++;
                }
            }
            for (int h = 0; h < Houses.MOST; h++) {
                hand[h] = given[h] == 0 ? HAND_UNKNOWN : hand[h] / given[h];
            }
        }

        private void knowTrust(int day) {
            Arrays.fill(known, 0);
            Arrays.fill(trust, 0);
            for (int s = 0; s < stays.count; s++) {
                int keeper = stays.keeper[s];
                if (keeper >= 0 && isCounting(OF_KEEPER, s, day)) {
                    trust[keeper] += 100 * stars[OF_KEEPER][s] - hand[stays.house[s]];
                    known[keeper]++;
                }
            }
            for (int k = 0; k < Keepers.MOST; k++) trust[k] /= known[k] + 1;
        }
    }

    /**
     * Reads a text into steps: a number as itself, a letter as FIRST_LETTER and its place in
     * LETTERS, an operator, behind both that it joins, as its byte below 0.
     */
    private static final class Text {
        static final int LONGEST = 60;
        static final int SOUND = -1;
        static final int FIRST_LETTER = 100000;
        static final String LETTERS = "tnpbdlhkyz";
        private static final int DEEPEST = 5;
        private static final int MOST_DIGITS = 5;

        int size;
        final int[] steps = new int[LONGEST];
        private final Row tape;
        private int at;
        private int fault;

        Text(Row tape) {
            this.tape = tape;
        }

        /** The place of the first byte that can not stand, or SOUND. */
        int read() {
            size = 0;
            at = 0;
            fault = SOUND;
            readSum(0);
            if (at < tape.size) fail();
            return fault;
        }

        private int next() {
            return tape.at(at);
        }

        private void fail() {
            if (fault == SOUND) fault = at;
        }

        private void addStep(int step) {
            if (size < LONGEST) steps[size++] = step;
        }

        private void readSum(int depth) {
            readProduct(depth);
            for (int i = 0; i < LONGEST && fault == SOUND; i++) {
                int sign = next();
                if (sign != '+' && sign != '-') break;
                at++;
                readProduct(depth);
                addStep(-sign);
            }
        }

        private void readProduct(int depth) {
            readUnit(depth);
            for (int i = 0; i < LONGEST && fault == SOUND; i++) {
                int sign = next();
                if (sign != '*' && sign != '/') break;
                at++;
                readUnit(depth);
                addStep(-sign);
            }
        }

        private void readUnit(int depth) {
            int first = next();
            if (isDigit(first)) {
                readNumber();
            } else if (first == '(' && depth < DEEPEST) {
                at++;
                readBracket(depth + 1);
            } else {
                readLetter(first);
            }
        }

        private static boolean isDigit(int sign) {
            return sign >= '0' && sign <= '9';
        }

        private void readNumber() {
            int number = 0;
            for (int i = 0; i < MOST_DIGITS && isDigit(next()); i++) {
                number = number * 10 + next() - '0';
                at++;
            }
            addStep(number);
        }

        private void readLetter(int sign) {
            int letter = sign == Row.END ? -1 : LETTERS.indexOf((char) sign);
            if (letter < 0) {
                fail();
            } else {
                addStep(FIRST_LETTER + letter);
                at++;
            }
        }

        private void readBracket(int depth) {
            readSum(depth);
            if (fault != SOUND) return;
            int sign = next();
            if (sign == '<' || sign == '=' || sign == '>') {
                at++;
                readSum(depth);
                addStep(-sign);
            }
            if (fault != SOUND) return;
            if (next() == ')') at++;
            else fail();
        }
    }

    /** Terms of owners: which is in force, and its worth. */
    private static final class Terms {
        static final int MOST = 30;
        static final int FOR_ALL = -1;
        private static final long GREATEST = 1000000000L;

        int count;
        private final int[] house = new int[MOST];
        private final int[] day = new int[MOST];
        private final int[] size = new int[MOST];
        private final int[] steps = new int[MOST * Text.LONGEST];
        private final long[] stack = new long[Text.LONGEST];

        /** Asked only while there is room. */
        int add(int ofHouse, int fromDay, Text text) {
            house[count] = ofHouse;
            day[count] = fromDay;
            size[count] = text.size;
            System.arraycopy(text.steps, 0, steps, count * Text.LONGEST, text.size);
            count++;
            return count;
        }

        /** The term in force, or NONE: a house's own, as soon as one has begun, stands before those for all. */
        int inForce(int ofHouse, int now) {
            int own = latest(ofHouse, now);
            return own == NONE ? latest(FOR_ALL, now) : own;
        }

        private int latest(int ofHouse, int now) {
            int best = NONE;
            for (int t = 0; t < count; t++) {
                if (house[t] != ofHouse || day[t] > now) continue;
                if (best == NONE || day[t] >= day[best]) best = t;
            }
            return best;
        }

        int valueOf(int term, int[] letters) {
            int top = 0;
            for (int i = 0; i < size[term]; i++) {
                int step = steps[term * Text.LONGEST + i];
                if (step >= 0 && top < stack.length) {
                    stack[top++] = unit(step, letters);
                } else if (step < 0 && top >= 2) {
                    top--;
                    stack[top - 1] = held(joined(-step, stack[top - 1], stack[top]));
                }
            }
            return (int) stack[0];
        }

        private static long unit(int step, int[] letters) {
            int letter = step - Text.FIRST_LETTER;
            return letter >= 0 && letter < letters.length ? letters[letter] : step;
        }

        private static long joined(int sign, long a, long b) {
            switch (sign) {
                case '+': return a + b;
                case '-': return a - b;
                case '*': return a * b;
                case '/': return b == 0 ? 0 : a / b;
                case '<': return a < b ? 1 : 0;
                case '=': return a == b ? 1 : 0;
                default: return a > b ? 1 : 0;
            }
        }

        private static long held(long number) {
            return Math.max(-GREATEST, Math.min(GREATEST, number));
        }
    }

    /** Why a keeper may not take a stay, and where a keeper is. */
    private static final class Rules {
        static final int MAY = 0;
        private static final int BEGUN = 1;
        private static final int BEASTS = 2;
        private static final int CLASH = 3;
        private static final int WAY = 4;
        private static final int VISA = 5;
        private static final int TERM = 6;
        private static final int NOT_OPEN = 9;
        private static final int VISA_DAYS = 180;

        private final Towns towns;
        private final Keepers keepers;
        private final Houses houses;
        private final Stays stays;
        private final Reviews reviews;
        private final Terms terms;
        private final int[] letters = new int[Text.LETTERS.length()];
        /** The stays of the keeper asked about: those taken, and those a chain would take. */
        private final int[] mine = new int[2 * Stays.MOST];
        private int mineCount;

        Rules(Towns towns, Keepers keepers, Houses houses, Stays stays, Reviews reviews, Terms terms) {
            this.towns = towns;
            this.keepers = keepers;
            this.houses = houses;
            this.stays = stays;
            this.reviews = reviews;
            this.terms = terms;
        }

        int whyNot(int keeper, int stay) {
            if (stays.state[stay] != Stays.OPEN) return NOT_OPEN;
            gatherStaysOf(keeper);
            return whyNotBesideMine(keeper, stay);
        }

        void gatherStaysOf(int keeper) {
            mineCount = 0;
            for (int s = 0; s < stays.count; s++) {
                if (stays.isTakenBy(s, keeper)) addToMine(s);
            }
        }

        void addToMine(int stay) {
            if (mineCount < mine.length) mine[mineCount++] = stay;
        }

        void dropLastOfMine() {
            if (mineCount > 0) mineCount--;
        }

        /** For an open stay, behind gatherStaysOf that keeper. */
        int whyNotBesideMine(int keeper, int stay) {
            if (hasBegun(stay)) return BEGUN;
            if (hasStrangeBeasts(keeper, stay)) return BEASTS;
            int reason = whyNotByDays(keeper, stay);
            if (reason != MAY) return reason;
            return worthOfTerm(keeper, stay) > 0 ? MAY : TERM;
        }

        /** What does not hang on the keeper's other stays. */
        boolean mayAlone(int keeper, int stay) {
            return !hasBegun(stay) && !hasStrangeBeasts(keeper, stay) && worthOfTerm(keeper, stay) > 0;
        }

        /** What does hang on them. */
        int whyNotByDays(int keeper, int stay) {
            if (clashesWithMine(stay)) return CLASH;
            if (isTooFar(keeper, stay)) return WAY;
            return isTooLongInLand(stay) ? VISA : MAY;
        }

        int worthOfTerm(int keeper, int stay) {
            int term = terms.inForce(stays.house[stay], stays.now);
            if (term == NONE) return 1;
            setLetters(keeper, stay);
            return terms.valueOf(term, letters);
        }

        int townOn(int keeper, int day) {
            int last = NONE;
            for (int s = 0; s < stays.count; s++) {
                if (!stays.isTakenBy(s, keeper) || stays.to[s] >= day) continue;
                if (last == NONE || stays.to[s] > stays.to[last]) last = s;
            }
            return last == NONE ? keepers.town[keeper] : townOf(last);
        }

        int hoursTo(int keeper, int stay) {
            return towns.hours[townOn(keeper, stays.from[stay])][townOf(stay)];
        }

        int landOf(int stay) {
            return towns.land[houses.town[stays.house[stay]]];
        }

        private int townOf(int stay) {
            return houses.town[stays.house[stay]];
        }

        private boolean hasBegun(int stay) {
            return stays.from[stay] <= stays.now;
        }

        private boolean hasStrangeBeasts(int keeper, int stay) {
            return (houses.beasts[stays.house[stay]] & ~keepers.beasts[keeper]) != 0;
        }

        private boolean clashesWithMine(int stay) {
            for (int i = 0; i < mineCount; i++) {
                if (stays.daysWithin(mine[i], stays.from[stay], stays.to[stay]) > 0) return true;
            }
            return false;
        }

        private boolean isTooFar(int keeper, int stay) {
            int last = lastOfMineAheadOf(stay);
            int start = last == NONE ? keepers.town[keeper] : townOf(last);
            int since = last == NONE ? stays.now : stays.to[last];
            if (stays.from[stay] - since < towns.daysBetween(start, townOf(stay))) return true;
            int first = firstOfMineBehind(stay);
            if (first == NONE) return false;
            return stays.from[first] - stays.to[stay] < towns.daysBetween(townOf(stay), townOf(first));
        }

        private int lastOfMineAheadOf(int stay) {
            int last = NONE;
            for (int i = 0; i < mineCount; i++) {
                if (stays.to[mine[i]] >= stays.from[stay]) continue;
                if (last == NONE || stays.to[mine[i]] > stays.to[last]) last = mine[i];
            }
            return last;
        }

        private int firstOfMineBehind(int stay) {
            int first = NONE;
            for (int i = 0; i < mineCount; i++) {
                if (stays.from[mine[i]] <= stays.to[stay]) continue;
                if (first == NONE || stays.from[mine[i]] < stays.from[first]) first = mine[i];
            }
            return first;
        }

        /** Of all spans of so many days, none has more than the fullest that begins with a stay. */
        private boolean isTooLongInLand(int stay) {
            int limit = towns.limit[landOf(stay)];
            // Most often all days together are not too many, and no span has to be looked at.
            if (daysInLand(stay, 0, LAST_DAY) <= limit) return false;
            if (daysInLand(stay, stays.from[stay], stays.from[stay] + VISA_DAYS - 1) > limit) return true;
            for (int i = 0; i < mineCount; i++) {
                int first = stays.from[mine[i]];
                if (daysInLand(stay, first, first + VISA_DAYS - 1) > limit) return true;
            }
            return false;
        }

        /** Days from first to last of mine, and of this stay, in the land of this one. */
        private int daysInLand(int stay, int first, int last) {
            int land = landOf(stay);
            int sum = stays.daysWithin(stay, first, last);
            for (int i = 0; i < mineCount; i++) {
                if (landOf(mine[i]) == land) sum += stays.daysWithin(mine[i], first, last);
            }
            return sum;
        }

        /** In the order of Text.LETTERS. */
        private void setLetters(int keeper, int stay) {
            int house = stays.house[stay];
            reviews.know(stays.now);
            letters[0] = reviews.trust[keeper];
            letters[1] = reviews.known[keeper];
            letters[2] = keepers.persons[keeper];
            letters[3] = Integer.bitCount(houses.beasts[house]);
            letters[4] = stays.lengthOf(stay);
            letters[5] = landOf(stay);
            letters[6] = house;
            letters[7] = keeper;
            letters[8] = stays.from[stay] - stays.now;
            letters[9] = hasBadTwin(keeper) ? 1 : 0;
        }

        private boolean hasBadTwin(int keeper) {
            for (int k = 0; k < keepers.count; k++) {
                if (k != keeper && reviews.trust[k] < 0 && keepers.areAlike(k, keeper)) return true;
            }
            return false;
        }
    }

    /** The best set of stays that a keeper could take together. */
    private static final class Chain {
        static final int MOST = 10;

        int bestDays;
        int bestSet;
        private final Stays stays;
        private final Rules rules;
        /** Stays that the keeper may take but for days, by first days, and their bits in the row. */
        private final int[] stayAt = new int[MOST];
        private final int[] bitAt = new int[MOST];
        /** Days of all stays from here on: what a set could still win. */
        private final int[] daysLeft = new int[MOST + 1];
        private int size;

        Chain(Stays stays, Rules rules) {
            this.stays = stays;
            this.rules = rules;
        }

        void find(int keeper, Row row) {
            size = 0;
            for (int i = 0; i < row.size && i < MOST; i++) {
                if (rules.mayAlone(keeper, row.at(i))) insert(row.at(i), 1 << i);
            }
            daysLeft[size] = 0;
            for (int at = size - 1; at >= 0; at--) daysLeft[at] = daysLeft[at + 1] + stays.lengthOf(stayAt[at]);
            bestDays = 0;
            bestSet = 0;
            rules.gatherStaysOf(keeper);
            search(keeper, 0, 0, 0);
        }

        private void insert(int stay, int bit) {
            if (size >= MOST) return;
            int at = size++;
            for (; at > 0 && stays.from[stayAt[at - 1]] > stays.from[stay]; at--) {
                stayAt[at] = stayAt[at - 1];
                bitAt[at] = bitAt[at - 1];
            }
            stayAt[at] = stay;
            bitAt[at] = bit;
        }

        private void search(int keeper, int at, int set, int days) {
            if (at >= size) {
                weigh(set, days);
                return;
            }
            if (days + daysLeft[at] < bestDays) return;
            if (rules.whyNotByDays(keeper, stayAt[at]) == Rules.MAY) {
                rules.addToMine(stayAt[at]);
                search(keeper, at + 1, set | bitAt[at], days + stays.lengthOf(stayAt[at]));
                rules.dropLastOfMine();
            }
            search(keeper, at + 1, set, days);
        }

        private void weigh(int set, int days) {
            int more = Integer.compare(days, bestDays);
            if (more == 0) more = Integer.compare(Integer.bitCount(bestSet), Integer.bitCount(set));
            if (more == 0) more = Integer.compare(bestSet, set);
            if (more > 0) {
                bestDays = days;
                bestSet = set;
            }
        }
    }

    /** Keepers for the stays of a row: stable pairs, the verdict on told ones, the best places. */
    private static final class Match {
        static final int MOST = 6;
        private static final int STABLE = -9;
        private static final int FIRST_UNSTABLE = 20;
        /** In a way's weight a place is a digit: its keeper, or this one for nobody. */
        private static final int NOBODY_DIGIT = 20;
        private static final int DIGIT_BASE = 21;
        private static final long[] DIGIT_WEIGHT = {4084101L, 194481L, 9261L, 441L, 21L, 1L};
        private static final long HOUR_WEIGHT = 85766121L;
        /** Above the hours of all places together. */
        private static final int HOURS_BASE = 2000;
        private static final long LACK_WEIGHT = HOUR_WEIGHT * HOURS_BASE;
        private static final long UNREACHED = LACK_WEIGHT * 100;

        final int[] chosen = new int[MOST];
        int hoursInAll;
        int placedInAll;
        private final Keepers keepers;
        private final Stays stays;
        private final Reviews reviews;
        private final Rules rules;
        private final int[] stayAt = new int[MOST];
        /** For each place the keepers that may, as bits. */
        private final int[] may = new int[MOST];
        private int size;
        /** For each keeper the places that sent that one away, as bits. */
        private final int[] refused = new int[Keepers.MOST];
        /** For each place how far the keeper has it who is looked at. */
        private final int[] hoursTo = new int[MOST];
        /** For each set of places, as bits, the least weight of a way to fill just these. */
        private final long[] least = new long[1 << MOST];

        Match(Keepers keepers, Stays stays, Reviews reviews, Rules rules) {
            this.keepers = keepers;
            this.stays = stays;
            this.reviews = reviews;
            this.rules = rules;
        }

        /** Takes the open stays of a row, and who may take each. */
        void survey(Row row) {
            reviews.know(stays.now);
            size = Math.min(row.size, MOST);
            for (int p = 0; p < size; p++) {
                stayAt[p] = row.at(p);
                may[p] = 0;
            }
            for (int k = 0; k < keepers.count; k++) {
                rules.gatherStaysOf(k);
                for (int p = 0; p < size; p++) {
                    if (rules.whyNotBesideMine(k, stayAt[p]) == Rules.MAY) may[p] |= 1 << k;
                }
            }
        }

        /** Keepers ask until nobody free has whom to ask; each asks each place once at most. */
        void makePairs() {
            Arrays.fill(chosen, NONE);
            Arrays.fill(refused, 0);
            for (int round = 0; round <= Keepers.MOST * MOST; round++) {
                boolean asked = false;
                for (int k = 0; k < keepers.count; k++) {
                    int place = hasPlace(k) ? NONE : bestToAsk(k);
                    if (place == NONE) continue;
                    ask(k, place);
                    asked = true;
                }
                if (!asked) return;
            }
        }

        private boolean hasPlace(int keeper) {
            for (int p = 0; p < size; p++) {
                if (chosen[p] == keeper) return true;
            }
            return false;
        }

        private int bestToAsk(int keeper) {
            int best = NONE;
            for (int p = 0; p < size; p++) {
                if (!mayTake(keeper, p) || (refused[keeper] >> p & 1) == 1) continue;
                if (best == NONE || keeperPrefers(keeper, p, best)) best = p;
            }
            return best;
        }

        private void ask(int keeper, int place) {
            int held = chosen[place];
            if (held == NONE || stayPrefers(keeper, held)) {
                chosen[place] = keeper;
                if (held >= 0) refused[held] |= 1 << place;
            } else {
                refused[keeper] |= 1 << place;
            }
        }

        private boolean mayTake(int keeper, int place) {
            return (may[place] >> keeper & 1) == 1;
        }

        private boolean keeperPrefers(int keeper, int place, int other) {
            int wish = keepers.wish[keeper][rules.landOf(stayAt[place])];
            int otherWish = keepers.wish[keeper][rules.landOf(stayAt[other])];
            return wish == otherWish ? place < other : wish > otherWish;
        }

        private boolean stayPrefers(int keeper, int other) {
            int trust = reviews.trust[keeper];
            int otherTrust = reviews.trust[other];
            return trust == otherTrust ? keeper < other : trust > otherTrust;
        }

        int verdictOn(Row told) {
            for (int p = 0; p < size; p++) {
                int keeper = told.at(p);
                if (keeper == NOBODY) continue;
                if (!keepers.has(keeper) || !mayTake(keeper, p)) return p;
                if (told.firstPlaceOf(keeper) < p) return p;
            }
            for (int p = 0; p < size; p++) {
                if (wouldBeLeft(told, p)) return FIRST_UNSTABLE + p;
            }
            return STABLE;
        }

        /** If there is a keeper who, and the stay at this place, would both rather have each other. */
        private boolean wouldBeLeft(Row told, int place) {
            int held = told.at(place);
            for (int k = 0; k < keepers.count; k++) {
                if (k == held || !mayTake(k, place)) continue;
                int has = told.firstPlaceOf(k);
                boolean keeperWould = has >= size || keeperPrefers(k, place, has);
                if (keeperWould && (held == NOBODY || stayPrefers(k, held))) return true;
            }
            return false;
        }

        int nearestFor(int stay) {
            if (stays.state[stay] != Stays.OPEN) return NONE;
            reviews.know(stays.now);
            int best = NONE;
            int bestHours = 0;
            for (int k = 0; k < keepers.count; k++) {
                rules.gatherStaysOf(k);
                if (rules.whyNotBesideMine(k, stay) != Rules.MAY) continue;
                int hours = rules.hoursTo(k, stay);
                boolean nearer = hours == bestHours ? best != NONE && stayPrefers(k, best) : hours < bestHours;
                if (best == NONE || nearer) {
                    best = k;
                    bestHours = hours;
                }
            }
            return best;
        }

        /**
         * A way's weight is the sum over its places of what each lacks, its hours and its digit,
         * so the least weight is the way that is asked for, and its digits tell who is where.
         */
        void makePlaces() {
            Arrays.fill(least, UNREACHED);
            least[0] = 0;
            for (int k = 0; k < keepers.count; k++) addKeeperToWays(k);
            long best = UNREACHED;
            for (int set = 0; set < 1 << size; set++) {
                best = Math.min(best, least[set] + weightOfEmptyBeside(set));
            }
            readWay(best);
        }

        /** Greater sets first, so that a keeper has one place at most. */
        private void addKeeperToWays(int keeper) {
            for (int p = 0; p < size; p++) hoursTo[p] = rules.hoursTo(keeper, stayAt[p]);
            for (int set = (1 << size) - 1; set > 0; set--) {
                for (int p = 0; p < size; p++) {
                    if ((set >> p & 1) == 0 || !mayTake(keeper, p)) continue;
                    long weight = hoursTo[p] * HOUR_WEIGHT + keeper * DIGIT_WEIGHT[p];
                    least[set] = Math.min(least[set], least[set ^ 1 << p] + weight);
                }
            }
        }

        private long weightOfEmptyBeside(int set) {
            long sum = 0;
            for (int p = 0; p < size; p++) {
                if ((set >> p & 1) == 0) sum += LACK_WEIGHT + NOBODY_DIGIT * DIGIT_WEIGHT[p];
            }
            return sum;
        }

        private void readWay(long weight) {
            placedInAll = 0;
            for (int p = 0; p < size; p++) {
                int digit = (int) (weight / DIGIT_WEIGHT[p] % DIGIT_BASE);
                chosen[p] = digit == NOBODY_DIGIT ? NONE : digit;
                if (chosen[p] != NONE) placedInAll++;
            }
            hoursInAll = (int) (weight / HOUR_WEIGHT % HOURS_BASE);
        }
    }
}
