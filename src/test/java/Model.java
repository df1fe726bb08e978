import java.util.ArrayList;
import java.util.Comparator;
import java.util.HashMap;
import java.util.HashSet;
import java.util.List;
import java.util.Map;
import java.util.Set;
import java.util.TreeSet;

/**
 * A slow second reading of the document, by other ways than the class: day by day, set by set,
 * every matching tried. ModelTest holds the class against it.
 */
final class Model {
    private static final int FAR = 1000000000;

    private static final class Keeper {
        int number, town, beasts, persons;
        String marks;
        Map<Integer, Integer> wishes = new HashMap<>();
    }

    private static final class House {
        int number, town, beasts;
        Map<Integer, Integer> looks = new HashMap<>();
    }

    private static final class Stay {
        int number, from, to, state;
        House house;
        Keeper keeper;
        Integer before, after;
        Review ofKeeper, ofHouse;

        boolean has(int day) {
            return from <= day && day <= to;
        }

        boolean meets(Stay other) {
            for (int day = from; day <= to; day++) if (other.has(day)) return true;
            return false;
        }

        int length() {
            return to - from + 1;
        }
    }

    private record Review(int stars, int day) {
    }

    private record Term(String text, int house, int day) {
    }

    private int now;
    private final int[] lands = new int[10];
    private final Map<Set<Integer>, Integer> ways = new HashMap<>();
    private final Map<Integer, Integer> limits = new HashMap<>();
    private final List<Keeper> keepers = new ArrayList<>();
    private final List<House> houses = new ArrayList<>();
    private final List<Stay> stays = new ArrayList<>();
    private final List<Term> terms = new ArrayList<>();
    private final StringBuilder tape = new StringBuilder();
    private final List<Integer> row = new ArrayList<>();
    private final List<Integer> told = new ArrayList<>();
    private final Map<Integer, Integer> refusals = new HashMap<>();

    private int refuse(int number) {
        refusals.merge(number, 1, Integer::sum);
        return number;
    }

    private static boolean in(int v, int least, int greatest) {
        return v >= least && v <= greatest;
    }

    private boolean isKeeper(int k) {
        return in(k, 0, keepers.size() - 1);
    }

    private boolean isHouse(int h) {
        return in(h, 0, houses.size() - 1);
    }

    private boolean isStay(int s) {
        return in(s, 0, stays.size() - 1);
    }

    private int hours(int a, int b) {
        return a == b ? 0 : ways.getOrDefault(Set.of(a, b), 24);
    }

    private int limitOf(int land) {
        return limits.getOrDefault(land, 180);
    }

    private int landOf(Stay s) {
        return lands[s.house.town];
    }

    int days(int n) {
        if (n < 1) return refuse(-4);
        if ((long) now + n > 1500) return refuse(-6);
        return now += n;
    }

    int town(int town, int land) {
        if (!in(town, 0, 9) || !in(land, 0, 4)) return refuse(-1);
        int old = lands[town];
        lands[town] = land;
        return old;
    }

    int way(int a, int b, int h) {
        if (!in(a, 0, 9) || !in(b, 0, 9) || a == b) return refuse(-1);
        if (h < 1) return refuse(-4);
        if (h > 240) return refuse(-6);
        int old = hours(a, b);
        ways.put(Set.of(a, b), h);
        return old;
    }

    int limit(int land, int days) {
        if (!in(land, 0, 4)) return refuse(-1);
        if (days < 0) return refuse(-4);
        if (days > 180) return refuse(-6);
        int old = limitOf(land);
        limits.put(land, days);
        return old;
    }

    int keeper(int town, int beasts, int persons, int marks) {
        if (!in(town, 0, 9)) return refuse(-1);
        if (beasts < 0 || persons < 1 || marks < 0) return refuse(-4);
        if (beasts > 255 || persons > 2 || marks > 99999 || keepers.size() == 20) return refuse(-6);
        Keeper k = new Keeper();
        k.number = keepers.size();
        k.town = town;
        k.beasts = beasts;
        k.persons = persons;
        k.marks = String.format("%05d", marks);
        keepers.add(k);
        return k.number;
    }

    int house(int town, int beasts) {
        if (!in(town, 0, 9)) return refuse(-1);
        if (beasts < 0) return refuse(-4);
        if (beasts > 255 || houses.size() == 20) return refuse(-6);
        House h = new House();
        h.number = houses.size();
        h.town = town;
        h.beasts = beasts;
        houses.add(h);
        return h.number;
    }

    int stay(int house, int from, int to) {
        if (!isHouse(house)) return refuse(-1);
        if (from <= now || to < from) return refuse(-4);
        if (from > 1500 || to > 1500 || stays.size() == 60) return refuse(-6);
        Stay s = new Stay();
        s.number = stays.size();
        s.house = houses.get(house);
        s.from = from;
        s.to = to;
        for (Stay o : stays) if (o.house == s.house && o.state != 2 && o.meets(s)) return refuse(-3);
        stays.add(s);
        return s.number;
    }

    private boolean over(Stay s) {
        return now > s.to;
    }

    int stayOf(int stay, int what) {
        if (!isStay(stay)) return refuse(-1);
        if (!in(what, 0, 5)) return refuse(-2);
        Stay s = stays.get(stay);
        int who = s.keeper == null ? -9 : s.keeper.number;
        return List.of(s.house.number, s.from, s.to, s.state, who, over(s) ? 1 : 0).get(what);
    }

    private List<Stay> takenBy(Keeper k) {
        List<Stay> mine = new ArrayList<>();
        for (Stay s : stays) if (s.state == 1 && s.keeper == k) mine.add(s);
        return mine;
    }

    private int whyNot(Keeper k, Stay s, List<Stay> mine) {
        if (s.state != 0) return 9;
        if (s.from <= now) return 1;
        for (int sort = 0; sort < 8; sort++) {
            if ((s.house.beasts >> sort & 1) == 1 && (k.beasts >> sort & 1) == 0) return 2;
        }
        for (Stay o : mine) if (o.meets(s)) return 3;
        if (tooFar(k, s, mine)) return 4;
        if (tooLong(s, mine)) return 5;
        return value(k, s) > 0 ? 0 : 6;
    }

    private boolean tooFar(Keeper k, Stay s, List<Stay> mine) {
        Stay last = null;
        Stay next = null;
        for (Stay o : mine) {
            if (o.to < s.from && (last == null || o.to > last.to)) last = o;
            if (o.from > s.to && (next == null || o.from < next.from)) next = o;
        }
        int start = last == null ? k.town : last.house.town;
        int since = last == null ? now : last.to;
        if (s.from - since < Math.ceil(hours(start, s.house.town) / 24.0)) return true;
        return next != null && next.from - s.to < Math.ceil(hours(s.house.town, next.house.town) / 24.0);
    }

    private boolean tooLong(Stay s, List<Stay> mine) {
        int[] there = new int[1501];
        for (int day = s.from; day <= s.to; day++) there[day] = 1;
        for (Stay o : mine) {
            if (landOf(o) != landOf(s)) continue;
            for (int day = o.from; day <= o.to; day++) there[day] = 1;
        }
        int sum = 0;
        for (int day = 0; day <= 1500; day++) {
            sum += there[day];
            if (day >= 180) sum -= there[day - 180];
            if (sum > limitOf(landOf(s))) return true;
        }
        return false;
    }

    private int whyNot(Keeper k, Stay s) {
        return whyNot(k, s, takenBy(k));
    }

    int why(int keeper, int stay) {
        if (!isKeeper(keeper) || !isStay(stay)) return refuse(-1);
        return whyNot(keepers.get(keeper), stays.get(stay));
    }

    int take(int keeper, int stay) {
        if (!isKeeper(keeper) || !isStay(stay)) return refuse(-1);
        if (whyNot(keepers.get(keeper), stays.get(stay)) != 0) return refuse(-3);
        stays.get(stay).state = 1;
        stays.get(stay).keeper = keepers.get(keeper);
        return 1;
    }

    int cancel(int stay) {
        if (!isStay(stay)) return refuse(-1);
        Stay s = stays.get(stay);
        if (over(s) || s.state == 2) return refuse(-3);
        s.state = 2;
        return s.keeper == null ? -9 : s.keeper.number;
    }

    private int townOn(Keeper k, int day) {
        List<Stay> ended = takenBy(k);
        ended.removeIf(s -> s.to >= day);
        ended.sort(Comparator.comparingInt(s -> s.to));
        return ended.isEmpty() ? k.town : ended.get(ended.size() - 1).house.town;
    }

    int where(int keeper, int day) {
        if (!isKeeper(keeper)) return refuse(-1);
        if (day < 0) return refuse(-4);
        if (day > 1500) return refuse(-6);
        return townOn(keepers.get(keeper), day);
    }

    int feed(int n, long bytes) {
        if (n < 1) return refuse(-4);
        if (n > 8 || tape.length() + n > 60) return refuse(-6);
        for (int i = 0; i < n; i++) {
            tape.append((char) (bytes & 255));
            bytes >>= 8;
        }
        return tape.length();
    }

    int term(int house, int day) {
        if (house != -1 && !isHouse(house)) return refuse(-1);
        if (day < now) return refuse(-4);
        if (day > 1500 || terms.size() == 30) return refuse(-6);
        String text = tape.toString();
        tape.setLength(0);
        int fault = fault(text);
        if (fault >= 0) return -20 - fault;
        terms.add(new Term(text, house, day));
        return terms.size();
    }

    /** By a list of open brackets: true where a comparison has been. */
    private static int fault(String text) {
        List<Boolean> open = new ArrayList<>();
        boolean wantsUnit = true;
        int digits = 0;
        for (int i = 0; i < text.length(); i++) {
            char c = text.charAt(i);
            boolean digit = c >= '0' && c <= '9';
            if (wantsUnit) {
                if (c == '(') {
                    if (open.size() == 5) return i;
                    open.add(false);
                } else if (digit || "tnpbdlhkyz".indexOf(c) >= 0) {
                    wantsUnit = false;
                    digits = digit ? 1 : 0;
                } else {
                    return i;
                }
            } else if (digit && digits >= 1 && digits < 5) {
                digits++;
            } else if ("+-*/".indexOf(c) >= 0) {
                wantsUnit = true;
            } else if ("<=>".indexOf(c) >= 0 && !open.isEmpty() && !open.get(open.size() - 1)) {
                open.set(open.size() - 1, true);
                wantsUnit = true;
            } else if (c == ')' && !open.isEmpty()) {
                open.remove(open.size() - 1);
                digits = 0;
            } else {
                return i;
            }
        }
        return wantsUnit || !open.isEmpty() ? text.length() : -1;
    }

    private int value(Keeper k, Stay s) {
        Term best = null;
        for (int house : new int[] {s.house.number, -1}) {
            for (Term t : terms) {
                if (t.house == house && t.day <= now && (best == null || t.day >= best.day)) best = t;
            }
            if (best != null) break;
        }
        return best == null ? 1 : (int) worked(best.text, k, s);
    }

    /** Cuts a sound text at its last outer sign of the lowest rank. */
    private long worked(String text, Keeper k, Stay s) {
        for (String signs : List.of("<=>", "+-", "*/")) {
            int at = lastOuter(text, signs);
            if (at < 0) continue;
            long a = worked(text.substring(0, at), k, s);
            long b = worked(text.substring(at + 1), k, s);
            return Math.max(-FAR, Math.min(FAR, joined(text.charAt(at), a, b)));
        }
        if (text.charAt(0) == '(') return worked(text.substring(1, text.length() - 1), k, s);
        if (Character.isDigit(text.charAt(0))) return Long.parseLong(text);
        return letter(text.charAt(0), k, s);
    }

    private static int lastOuter(String text, String signs) {
        int depth = 0;
        for (int i = text.length() - 1; i >= 0; i--) {
            char c = text.charAt(i);
            if (c == ')') depth++;
            if (c == '(') depth--;
            if (depth == 0 && signs.indexOf(c) >= 0) return i;
        }
        return -1;
    }

    private static long joined(char sign, long a, long b) {
        return switch (sign) {
            case '+' -> a + b;
            case '-' -> a - b;
            case '*' -> a * b;
            case '/' -> b == 0 ? 0 : a / b;
            case '<' -> a < b ? 1 : 0;
            case '>' -> a > b ? 1 : 0;
            default -> a == b ? 1 : 0;
        };
    }

    private long letter(char c, Keeper k, Stay s) {
        return switch (c) {
            case 't' -> trustOf(k, now);
            case 'n' -> known(k, now).size();
            case 'p' -> k.persons;
            case 'b' -> Integer.toBinaryString(s.house.beasts).replace("0", "").length();
            case 'd' -> s.length();
            case 'l' -> landOf(s);
            case 'h' -> s.house.number;
            case 'k' -> k.number;
            case 'y' -> s.from - now;
            default -> keepers.stream().anyMatch(o -> o != k && alike(o, k) && trustOf(o, now) < 0) ? 1 : 0;
        };
    }

    private static boolean alike(Keeper a, Keeper b) {
        int different = 0;
        for (int i = 0; i < 5; i++) if (a.marks.charAt(i) != b.marks.charAt(i)) different++;
        return different <= 1;
    }

    int worth(int keeper, int stay) {
        if (!isKeeper(keeper) || !isStay(stay)) return FAR - refuse(-1);
        return value(keepers.get(keeper), stays.get(stay));
    }

    private static boolean counts(Review r, Review other, Stay s, int day) {
        if (r == null || r.day > day) return false;
        return other != null && other.day <= day || day - s.to > 14;
    }

    int review(int stay, boolean ofKeeper, int stars) {
        if (!isStay(stay)) return refuse(-1);
        Stay s = stays.get(stay);
        if (s.state != 1 || !over(s) || now - s.to > 30) return refuse(-3);
        if ((ofKeeper ? s.ofKeeper : s.ofHouse) != null) return refuse(-3);
        if (stars < 1) return refuse(-4);
        if (stars > 5) return refuse(-6);
        Review r = new Review(stars, now);
        if (ofKeeper) s.ofKeeper = r;
        else s.ofHouse = r;
        return counts(r, ofKeeper ? s.ofHouse : s.ofKeeper, s, now) ? 1 : 0;
    }

    private int handOf(House h, int day) {
        int sum = 0;
        int n = 0;
        for (Stay s : stays) {
            if (s.house != h || !counts(s.ofKeeper, s.ofHouse, s, day)) continue;
            sum += s.ofKeeper.stars;
            n++;
        }
        return n == 0 ? 300 : 100 * sum / n;
    }

    private List<Stay> known(Keeper k, int day) {
        List<Stay> known = takenBy(k);
        known.removeIf(s -> !counts(s.ofKeeper, s.ofHouse, s, day));
        return known;
    }

    private int trustOf(Keeper k, int day) {
        int sum = 0;
        for (Stay s : known(k, day)) sum += 100 * s.ofKeeper.stars - handOf(s.house, day);
        return sum / (known(k, day).size() + 1);
    }

    private int dayRefusal(int k) {
        if (k < 0) return -4;
        return k > now ? -6 : 0;
    }

    int hand(int house, int k) {
        if (!isHouse(house)) return refuse(-1);
        if (dayRefusal(k) != 0) return refuse(dayRefusal(k));
        return handOf(houses.get(house), k);
    }

    int trust(int keeper, int k) {
        if (!isKeeper(keeper)) return FAR - refuse(-1);
        if (dayRefusal(k) != 0) return FAR - refuse(dayRefusal(k));
        return trustOf(keepers.get(keeper), k);
    }

    int bound(int keeper, int what) {
        if (!isKeeper(keeper)) return FAR - refuse(-1);
        if (!in(what, 0, 1)) return FAR - refuse(-2);
        Keeper k = keepers.get(keeper);
        int width = 400 / (known(k, now).size() + 1);
        return trustOf(k, now) + (what == 0 ? -width : width);
    }

    int stars(int house, int k) {
        if (!isHouse(house)) return refuse(-1);
        if (dayRefusal(k) != 0) return refuse(dayRefusal(k));
        int sum = 0;
        int n = 0;
        for (Stay s : stays) {
            if (s.house.number != house || !counts(s.ofHouse, s.ofKeeper, s, k)) continue;
            sum += s.ofHouse.stars;
            n++;
        }
        return n == 0 ? -9 : 100 * sum / n;
    }

    int put(int v) {
        if (v < -1) return refuse(-4);
        if (v > 99 || row.size() == 12) return refuse(-6);
        row.add(v);
        return row.size();
    }

    int unput() {
        int had = row.size();
        row.clear();
        return had;
    }

    private boolean rowUnsound() {
        for (int v : row) if (stays.get(v).state != 0) return true;
        return new HashSet<>(row).size() < row.size();
    }

    int chain(int keeper, int what) {
        if (!isKeeper(keeper) || !row.stream().allMatch(this::isStay)) return refuse(-1);
        if (!in(what, 0, 1)) return refuse(-2);
        if (rowUnsound()) return refuse(-3);
        if (row.size() > 10) return refuse(-6);
        int bestDays = 0;
        int best = 0;
        for (int set = 1; set < 1 << row.size(); set++) {
            int days = daysTogether(keepers.get(keeper), set);
            boolean fewer = Integer.bitCount(set) < Integer.bitCount(best);
            if (days > bestDays || days == bestDays && days > 0 && fewer) {
                bestDays = days;
                best = set;
            }
        }
        return what == 0 ? bestDays : best;
    }

    /** -1 if one could not take them together. */
    private int daysTogether(Keeper k, int set) {
        List<Stay> wanted = new ArrayList<>();
        for (int i = 0; i < row.size(); i++) if ((set >> i & 1) == 1) wanted.add(stays.get(row.get(i)));
        wanted.sort(Comparator.comparingInt(s -> s.from));
        List<Stay> mine = takenBy(k);
        int days = 0;
        for (Stay s : wanted) {
            if (whyNot(k, s, mine) != 0) return -1;
            mine.add(s);
            days += s.length();
        }
        return days;
    }

    int wish(int keeper, int land, int v) {
        if (!isKeeper(keeper) || !in(land, 0, 4)) return refuse(-1);
        if (v < 0) return refuse(-4);
        if (v > 99) return refuse(-6);
        Integer old = keepers.get(keeper).wishes.put(land, v);
        return old == null ? 0 : old;
    }

    private int rowRefusal() {
        if (!row.stream().allMatch(this::isStay)) return -1;
        if (rowUnsound()) return -3;
        return row.size() > 6 ? -6 : 0;
    }

    private List<Set<Integer>> whoMay() {
        List<Set<Integer>> may = new ArrayList<>();
        for (int v : row) {
            Set<Integer> who = new TreeSet<>();
            for (Keeper k : keepers) if (whyNot(k, stays.get(v)) == 0) who.add(k.number);
            may.add(who);
        }
        return may;
    }

    /** All ways to give places keepers that may, each one at most; -1 for nobody. */
    private List<int[]> matchings(List<Set<Integer>> may) {
        List<int[]> all = new ArrayList<>();
        extend(all, may, new int[row.size()], 0);
        return all;
    }

    private static void extend(List<int[]> all, List<Set<Integer>> may, int[] way, int at) {
        if (at == way.length) {
            all.add(way.clone());
            return;
        }
        for (int k : may.get(at)) {
            boolean used = false;
            for (int i = 0; i < at; i++) used |= way[i] == k;
            if (used) continue;
            way[at] = k;
            extend(all, may, way, at + 1);
        }
        way[at] = -1;
        extend(all, may, way, at + 1);
    }

    private static int placeOf(int[] way, int k) {
        for (int i = 0; i < way.length; i++) if (way[i] == k) return i;
        return -1;
    }

    /** The less the better; nobody and nowhere come last. */
    private int rankOfPlace(int k, int place) {
        if (place < 0) return FAR;
        int wish = keepers.get(k).wishes.getOrDefault(landOf(stays.get(row.get(place))), 0);
        return (99 - wish) * 10 + place;
    }

    private int rankOfKeeper(int k) {
        return k < 0 ? FAR : -trustOf(keepers.get(k), now) * 100 + k;
    }

    private int firstBlocking(int[] way, List<Set<Integer>> may) {
        for (int i = 0; i < way.length; i++) {
            for (int k : may.get(i)) {
                boolean stayWould = rankOfKeeper(k) < rankOfKeeper(way[i]);
                boolean keeperWould = rankOfPlace(k, i) < rankOfPlace(k, placeOf(way, k));
                if (stayWould && keeperWould) return i;
            }
        }
        return -1;
    }

    /** Of the stable ways the one that every keeper likes best. */
    int pair(int i) {
        if (rowRefusal() != 0) return refuse(rowRefusal());
        if (!in(i, 0, row.size() - 1)) return refuse(-2);
        int[] best = null;
        List<Set<Integer>> may = whoMay();
        for (int[] way : matchings(may)) {
            if (firstBlocking(way, may) >= 0) continue;
            if (best == null || keepersLike(way, best)) best = way;
        }
        return best[i] < 0 ? -9 : best[i];
    }

    private boolean keepersLike(int[] way, int[] other) {
        for (Keeper k : keepers) {
            int a = rankOfPlace(k.number, placeOf(way, k.number));
            int b = rankOfPlace(k.number, placeOf(other, k.number));
            if (a != b) return a < b;
        }
        return false;
    }

    int tell(int v) {
        if (v < -1) return refuse(-4);
        if (v > 99 || told.size() == 6) return refuse(-6);
        told.add(v);
        return told.size();
    }

    int judge() {
        if (rowRefusal() != 0) return refuse(rowRefusal());
        if (told.size() != row.size()) return refuse(-3);
        int[] way = told.stream().mapToInt(v -> v).toArray();
        told.clear();
        Set<Integer> seen = new HashSet<>();
        for (int i = 0; i < way.length; i++) {
            if (way[i] < 0) continue;
            if (!isKeeper(way[i]) || !seen.add(way[i])) return i;
            if (whyNot(keepers.get(way[i]), stays.get(row.get(i))) != 0) return i;
        }
        int blocking = firstBlocking(way, whoMay());
        return blocking < 0 ? -9 : 20 + blocking;
    }

    private int hoursTo(Keeper k, Stay s) {
        return hours(townOn(k, s.from), s.house.town);
    }

    int whoElse(int stay) {
        if (!isStay(stay)) return refuse(-1);
        Stay s = stays.get(stay);
        return keepers.stream().filter(k -> whyNot(k, s) == 0)
            .min(Comparator.<Keeper>comparingInt(k -> hoursTo(k, s)).thenComparingInt(k -> rankOfKeeper(k.number)))
            .map(k -> k.number).orElse(-9);
    }

    int place(int i) {
        if (rowRefusal() != 0) return refuse(rowRefusal());
        if (!in(i, 0, row.size() - 1) && i != 10 && i != 11) return refuse(-2);
        int[] best = null;
        int bestHours = 0;
        int bestPlaced = -1;
        for (int[] way : matchings(whoMay())) {
            int placed = 0;
            int hours = 0;
            for (int p = 0; p < way.length; p++) {
                if (way[p] < 0) continue;
                placed++;
                hours += hoursTo(keepers.get(way[p]), stays.get(row.get(p)));
            }
            // They come place by place the least keeper first, nobody last: the first of like ones stays.
            if (placed > bestPlaced || placed == bestPlaced && hours < bestHours) {
                best = way;
                bestHours = hours;
                bestPlaced = placed;
            }
        }
        if (i >= 10) return i == 10 ? bestHours : bestPlaced;
        return best[i] < 0 ? -9 : best[i];
    }

    int group(int keeper) {
        if (!isKeeper(keeper)) return refuse(-1);
        int[] least = new int[keepers.size()];
        for (int k = 0; k < least.length; k++) least[k] = k;
        for (int round = 0; round < least.length; round++) {
            for (Keeper a : keepers) {
                for (Keeper b : keepers) {
                    if (alike(a, b)) least[a.number] = Math.min(least[a.number], least[b.number]);
                }
            }
        }
        return least[keeper];
    }

    int list(int stay, boolean after, int items) {
        if (!isStay(stay)) return refuse(-1);
        Stay s = stays.get(stay);
        if (s.state != 1 || (after ? !over(s) : now > s.from)) return refuse(-3);
        if (items < 0) return refuse(-4);
        Integer old = after ? s.after : s.before;
        if (after) s.after = items;
        else s.before = items;
        return old == null ? 1 : 0;
    }

    int look(int house, int item, int v) {
        if (!isHouse(house)) return refuse(-1);
        if (item < 0 || v < 0) return refuse(-4);
        if (item > 30 || v > 9) return refuse(-6);
        Integer old = houses.get(house).looks.put(item, v);
        return old == null ? 1 : old;
    }

    private static int itemsGone(Stay s) {
        int items = 0;
        for (int i = 0; i <= 30; i++) {
            if ((s.before >> i & 1) == 1 && (s.after >> i & 1) == 0) items += 1 << i;
        }
        return items;
    }

    int gone(int stay) {
        if (!isStay(stay)) return refuse(-1);
        Stay s = stays.get(stay);
        return s.before == null || s.after == null ? -9 : itemsGone(s);
    }

    int claim(int stay) {
        if (!isStay(stay)) return refuse(-1);
        Stay s = stays.get(stay);
        if (s.before == null || s.after == null) return refuse(-3);
        int sum = 0;
        for (int i = 0; i <= 30; i++) {
            if ((itemsGone(s) >> i & 1) == 1) sum += 5 + s.house.looks.getOrDefault(i, 1) * 10;
        }
        return sum;
    }

    int count(int what) {
        if (in(what, 11, 16)) return refusals.getOrDefault(10 - what, 0);
        if (in(what, 4, 6)) return (int) stays.stream().filter(s -> s.state == what - 4).count();
        return switch (what) {
            case 0 -> now;
            case 1 -> keepers.size();
            case 2 -> houses.size();
            case 3 -> stays.size();
            case 7 -> terms.size();
            case 8 -> stays.stream().mapToInt(s -> (s.ofKeeper == null ? 0 : 1) + (s.ofHouse == null ? 0 : 1)).sum();
            case 9 -> stays.stream().mapToInt(s -> (counts(s.ofKeeper, s.ofHouse, s, now) ? 1 : 0)
                + (counts(s.ofHouse, s.ofKeeper, s, now) ? 1 : 0)).sum();
            case 10 -> tape.length();
            case 17 -> row.size();
            case 18 -> told.size();
            default -> -9;
        };
    }
}
