import java.util.Map;
import java.util.Random;
import java.util.TreeMap;

/** Random runs of 512 calls, each answer held against Model; the seeds are fixed, so a failure comes again. */
public final class ModelTest {
    private static final int RUNS = 600;
    private static final int CALLS = 512;
    private static final String[] NAMES = {
        "days", "town", "way", "limit", "keeper", "house", "stay", "stayOf", "why", "take", "cancel", "where",
        "feed", "term", "worth", "review", "hand", "trust", "bound", "stars", "put", "unput", "chain", "wish",
        "pair", "tell", "judge", "whoElse", "place", "group", "list", "look", "gone", "claim", "count"};
    /** How often each is called beside the others, in the order of NAMES. */
    private static final int[] WEIGHTS = {
        4, 1, 2, 1, 2, 2, 18, 2, 10, 14, 3, 2,
        0, 2, 4, 14, 2, 4, 3, 3, 0, 0, 3, 4,
        2, 1, 2, 4, 3, 2, 8, 4, 2, 4, 4};

    private final Check check = new Check();
    private final Map<String, Integer> seen = new TreeMap<>();
    private Random random;
    private HouseKeepers x;
    private Model m;
    private int run;
    private int calls;
    private int mostKeepers;
    private boolean wild;
    private boolean full;

    public static void main(String[] args) {
        ModelTest test = new ModelTest();
        int runs = args.length > 0 ? Integer.parseInt(args[0]) : RUNS;
        int first = args.length > 1 ? Integer.parseInt(args[1]) : 0;
        for (int run = first; run < first + runs && test.check.allRight(); run++) test.go(run);
        if (args.length > 0) System.out.println(test.seen);
        test.check.finish("ModelTest");
    }

    private void go(int number) {
        run = number;
        random = new Random(number);
        x = new HouseKeepers();
        m = new Model();
        calls = 0;
        wild = run % 5 == 4;
        // Model tries every matching, so with many keepers rows are kept short.
        full = run % 7 == 3;
        mostKeepers = full || run % 7 == 0 ? 20 : 1 + random.nextInt(6);
        setUp();
        int all = 0;
        for (int weight : WEIGHTS) all += weight;
        while (calls < CALLS && check.allRight()) {
            int at = random.nextInt(all);
            int which = 0;
            while (at >= WEIGHTS[which]) at -= WEIGHTS[which++];
            act(NAMES[which]);
        }
    }

    private void setUp() {
        for (int i = 0; i < 6; i++) call("town", below(10), below(3), 0, 0);
        for (int i = 0; i < 12; i++) call("way", below(6), below(6), 1 + below(random.nextBoolean() ? 40 : 240), 0);
        for (int i = 0; i < 3; i++) call("limit", below(3), 10 + below(80), 0, 0);
        for (int i = 0; i < (full ? 20 : Math.min(mostKeepers, 8)); i++) addKeeper();
        int houses = full ? 20 : 1 + below(12);
        for (int i = 0; i < houses; i++) call("house", below(6), below(4), 0, 0);
        int stays = full ? 100 : below(20);
        for (int i = 0; i < stays; i++) addStay(0);
        if (full) tellFewMay();
    }

    /** Of twenty keepers no more than five, so that Model can try every matching of a long row. */
    private void tellFewMay() {
        String[] texts = {"(k>15)", "(k<5)", "(k/4=2)", "(k/5*5=k)"};
        String text = texts[below(texts.length)];
        for (int at = 0; at < text.length(); at += 8) {
            int n = Math.min(8, text.length() - at);
            feed(n, Check.packed(text, at, n));
        }
        call("term", -1, 0, 0, 0);
    }

    private void addKeeper() {
        if (m.count(1) >= mostKeepers) return;
        int marks = 12345 + below(3) * (int) Math.pow(10, below(5)) + below(2) * (int) Math.pow(10, below(5));
        call("keeper", below(6), below(4) == 0 ? below(256) : 255, 1 + below(2), marks);
    }

    private int below(int n) {
        return random.nextInt(n);
    }

    /** Mostly a number below n, at times just outside or far away. */
    private int near(int n) {
        int odd = below(wild ? 8 : 60);
        if (odd == 0) return -1 - below(2);
        if (odd == 1) return n + below(2);
        if (odd == 2) return random.nextInt();
        return n <= 0 ? 0 : below(n);
    }

    private int aKeeper() {
        return near(m.count(1));
    }

    private int aHouse() {
        return near(m.count(2));
    }

    private int aStay() {
        int n = m.count(3);
        // The newer ones are those that something can still happen to.
        return below(3) == 0 || n < 12 ? near(n) : near(12) + n - 12;
    }

    /** Mostly an open one that has not begun. Asking the model for what is there changes nothing in it. */
    private int openStay() {
        int s = aStay();
        for (int i = 0; i < 20 && below(30) != 0; i++) {
            s = below(Math.max(m.count(3), 1));
            if (s < m.count(3) && m.stayOf(s, 3) == 0 && m.stayOf(s, 1) > m.count(0)) return s;
        }
        return s;
    }

    /** Mostly a taken one, over or not. */
    private int takenStay(boolean over) {
        int s = aStay();
        for (int i = 0; i < 20 && below(30) != 0; i++) {
            s = below(Math.max(m.count(3), 1));
            if (s < m.count(3) && m.stayOf(s, 3) == 1 && m.stayOf(s, 5) == (over ? 1 : 0)) return s;
        }
        return s;
    }

    private void act(String name) {
        int now = m.count(0);
        switch (name) {
            case "days" -> call(name, below(wild ? 10 : 60) == 0 ? near(2000) : near(14), 0, 0, 0);
            case "town" -> call(name, near(10), near(5), 0, 0);
            case "way" -> call(name, near(6), near(6), 1 + near(below(2) == 0 ? 60 : 240), 0);
            case "limit" -> call(name, near(5), near(181), 0, 0);
            case "keeper" -> {
                if (wild) call(name, near(10), near(1) - below(3), near(3), near(100000));
                else addKeeper();
            }
            case "house" -> call(name, near(6), below(3) == 0 ? near(256) : near(4), 0, 0);
            case "stay" -> addStay(now);
            case "stayOf" -> call(name, aStay(), near(6), 0, 0);
            case "why", "worth" -> call(name, aKeeper(), below(3) == 0 ? aStay() : openStay(), 0, 0);
            case "take" -> call(name, aKeeper(), openStay(), 0, 0);
            case "cancel" -> call(name, below(2) == 0 ? aStay() : takenStay(false), 0, 0, 0);
            case "whoElse" -> call(name, below(4) == 0 ? aStay() : openStay(), 0, 0, 0);
            case "gone", "claim" -> call(name, below(4) == 0 ? aStay() : takenStay(true), 0, 0, 0);
            case "where" -> call(name, aKeeper(), below(2) == 0 ? now + below(60) : near(1501), 0, 0);
            case "term" -> addTerm(now);
            case "review" -> call(name, takenStay(true), below(2), 1 + near(5), 0);
            case "hand", "stars" -> call(name, aHouse(), below(2) == 0 ? now - below(20) : near(now + 1), 0, 0);
            case "trust" -> call(name, aKeeper(), below(2) == 0 ? now - below(20) : near(now + 1), 0, 0);
            case "bound" -> call(name, aKeeper(), near(2), 0, 0);
            case "chain" -> {
                fillRow(below(12) == 0 ? 12 : 10);
                int k = aKeeper();
                call(name, k, 0, 0, 0);
                call(name, k, wild ? near(2) : 1, 0, 0);
            }
            case "wish" -> call(name, aKeeper(), near(5), near(below(2) == 0 ? 3 : 100), 0);
            case "pair" -> {
                fillRow(shortRow());
                call(name, near(m.count(17)), 0, 0, 0);
                call(name, near(m.count(17)), 0, 0, 0);
            }
            case "judge" -> actJudge();
            case "place" -> {
                fillRow(shortRow());
                call(name, near(m.count(17)), 0, 0, 0);
                call(name, 10 + below(2), 0, 0, 0);
            }
            case "group" -> call(name, aKeeper(), 0, 0, 0);
            case "list" -> {
                int after = below(2);
                call(name, takenStay(after == 1), after, below(20) == 0 ? -1 : random.nextInt() >>> 1, 0);
            }
            case "look" -> call(name, aHouse(), near(31), near(10), 0);
            case "count" -> call(name, near(19), 0, 0, 0);
            case "tell" -> call(name, near(101) - 1, 0, 0, 0);
            default -> throw new IllegalStateException(name);
        }
    }

    private void addStay(int now) {
        int from = now + near(60);
        int to = below(8) == 0 ? from + near(200) : from + near(8);
        call("stay", aHouse(), from, to, 0);
    }

    private int shortRow() {
        return below(15) == 0 ? 8 : m.count(1) > 6 && !full ? 2 : 1 + below(6);
    }

    private void fillRow(int most) {
        call("unput", 0, 0, 0, 0);
        int size = below(most + 1);
        int used = 0;
        long seenBits = 0;
        for (int i = 0; i < 3 * size && used < size; i++) {
            int s = openStay();
            boolean twice = s >= 0 && s < 60 && (seenBits >> s & 1) == 1;
            if (twice && below(20) != 0) continue;
            if (s >= 0 && s < 60) seenBits |= 1L << s;
            if ((s < 0 || s >= m.count(3)) && below(3) != 0) continue;
            call("put", s, 0, 0, 0);
            used++;
        }
        if (below(wild ? 10 : 40) == 0) call("put", near(101) - 1, 0, 0, 0);
    }

    /** Half of the rows are the pairs themselves, with one place changed at times. */
    private void actJudge() {
        fillRow(shortRow());
        int places = m.count(17);
        boolean fromPairs = random.nextBoolean();
        int changed = below(8);
        for (int p = 0; p < places && p < 6 && m.count(18) < 6; p++) {
            int k = near(m.count(1) + 1) - 1;
            if (fromPairs && p != changed) {
                k = m.pair(p);
                check.due("run " + run + ": pair(" + p + ") ahead of judge", x.pair(p), k);
                if (k == -9) k = -1;
            }
            call("tell", k, 0, 0, 0);
        }
        call("judge", 0, 0, 0, 0);
    }

    private void addTerm(int now) {
        if (full) return;
        String text = below(6) == 0 ? spoiled(text(3)) : text(3);
        // Most terms let, or nothing would ever be taken.
        if (below(3) != 0) text = "1+" + text + "*0+(" + text(1) + "=" + text(1) + ")";
        if (text.length() > 60) text = text.substring(0, 60);
        for (int at = 0; at < text.length(); at += 8) {
            int n = Math.min(8, text.length() - at);
            feed(n, Check.packed(text, at, n));
        }
        if (below(wild ? 5 : 40) == 0) feed(near(9), random.nextLong());
        int day = below(3) == 0 ? now + near(30) : now;
        call("term", below(4) == 0 ? -1 : aHouse(), day, 0, 0);
    }

    private String spoiled(String text) {
        String signs = "tnpbdlhkyz0123456789()<=>+-*/ax ";
        StringBuilder b = new StringBuilder(text);
        int at = below(b.length());
        if (random.nextBoolean()) b.deleteCharAt(at);
        else b.insert(at, signs.charAt(below(signs.length())));
        return b.toString();
    }

    private String text(int depth) {
        int kind = below(depth <= 0 ? 2 : 6);
        if (kind == 0) return "" + below(below(3) == 0 ? 100000 : 10);
        if (kind == 1) return "" + "tnpbdlhkyz".charAt(below(10));
        String sign = "" + "+-*/".charAt(below(4));
        if (kind == 2) return text(depth - 1) + sign + text(depth - 1);
        if (kind == 3) return "(" + text(depth - 1) + ")";
        if (kind == 4) return "(" + text(depth - 1) + "<=>".charAt(below(3)) + text(depth - 1) + ")";
        return text(depth - 1) + "+1";
    }

    private void feed(int n, long bytes) {
        calls++;
        report("feed(" + n + ", " + bytes + ")", x.feed(n, bytes), m.feed(n, bytes));
    }

    private void call(String name, int a, int b, int c, int d) {
        calls++;
        String told = name + "(" + a + ", " + b + ", " + c + ", " + d + ")";
        switch (name) {
            case "days" -> report(told, x.days(a), m.days(a));
            case "town" -> report(told, x.town(a, b), m.town(a, b));
            case "way" -> report(told, x.way(a, b, c), m.way(a, b, c));
            case "limit" -> report(told, x.limit(a, b), m.limit(a, b));
            case "keeper" -> report(told, x.keeper(a, b, c, d), m.keeper(a, b, c, d));
            case "house" -> report(told, x.house(a, b), m.house(a, b));
            case "stay" -> report(told, x.stay(a, b, c), m.stay(a, b, c));
            case "stayOf" -> report(told, x.stayOf(a, b), m.stayOf(a, b));
            case "why" -> report(told, x.why(a, b), m.why(a, b));
            case "take" -> report(told, x.take(a, b), m.take(a, b));
            case "cancel" -> report(told, x.cancel(a), m.cancel(a));
            case "where" -> report(told, x.where(a, b), m.where(a, b));
            case "term" -> report(told, x.term(a, b), m.term(a, b));
            case "worth" -> report(told, x.worth(a, b), m.worth(a, b));
            case "review" -> report(told, x.review(a, b == 1, c), m.review(a, b == 1, c));
            case "hand" -> report(told, x.hand(a, b), m.hand(a, b));
            case "trust" -> report(told, x.trust(a, b), m.trust(a, b));
            case "bound" -> report(told, x.bound(a, b), m.bound(a, b));
            case "stars" -> report(told, x.stars(a, b), m.stars(a, b));
            case "put" -> report(told, x.put(a), m.put(a));
            case "unput" -> report(told, x.unput(), m.unput());
            case "chain" -> report(told, x.chain(a, b), m.chain(a, b));
            case "wish" -> report(told, x.wish(a, b, c), m.wish(a, b, c));
            case "pair" -> report(told, x.pair(a), m.pair(a));
            case "tell" -> report(told, x.tell(a), m.tell(a));
            case "judge" -> report(told, x.judge(), m.judge());
            case "whoElse" -> report(told, x.whoElse(a), m.whoElse(a));
            case "place" -> report(told, x.place(a), m.place(a));
            case "group" -> report(told, x.group(a), m.group(a));
            case "list" -> report(told, x.list(a, b == 1, c), m.list(a, b == 1, c));
            case "look" -> report(told, x.look(a, b, c), m.look(a, b, c));
            case "gone" -> report(told, x.gone(a), m.gone(a));
            case "claim" -> report(told, x.claim(a), m.claim(a));
            case "count" -> report(told, x.count(a), m.count(a));
            default -> throw new IllegalStateException(name);
        }
    }

    private void report(String told, int got, int want) {
        String name = told.substring(0, told.indexOf('('));
        seen.merge(name + " " + (want < -9 || want > 30 ? "far" : "" + want), 1, Integer::sum);
        check.due("run " + run + ", call " + calls + ": " + told, got, want);
    }
}
