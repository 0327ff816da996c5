package support;

import java.util.ArrayList;
import java.util.Arrays;
import java.util.HashSet;
import java.util.List;
import java.util.NoSuchElementException;
import java.util.TreeSet;

/**
 * The document once more, as naively as can be (all subsets, all partitions, all ways), with the Java library:
 * what SorryPurses answers is compared with it. No code is shared.
 */
public final class Model {
    /** A text that is not as it should be. */
    private static final class Fault extends RuntimeException {
        private static final long serialVersionUID = 1L;
        final int kind;
        final int place;

        Fault(int kind, int place) {
            this.kind = kind;
            this.place = place;
        }
    }

    private static final class Claim implements Cloneable {
        int on;
        int by;
        int size;
        int made;
        int passed;
        int told;
        int truth;
        int fate;
        int last = -1;

        Claim copy() {
            try {
                return (Claim) clone();
            } catch (CloneNotSupportedException e) {
                throw new AssertionError(e);
            }
        }

        boolean stands() {
            return fate == 0;
        }
    }

    private static final class World {
        List<Claim> claims = new ArrayList<>();
        int day;
        int[] sums = new int[5];

        World copy() {
            World w = new World();
            for (Claim c : claims) {
                w.claims.add(c.copy());
            }
            w.day = day;
            w.sums = sums.clone();
            return w;
        }
    }

    private record Image(World world, List<World> rows, int bite) {
    }

    private record Token(char kind, String text, int at) {
        boolean is(String wanted) {
            return kind != 'e' && text.equals(wanted);
        }
    }

    private final StringBuilder tape = new StringBuilder();
    private int fault = -1;
    private List<Integer> tempers = new ArrayList<>();
    private int interest = 10;
    private int bite = 30;
    private World world = new World();
    private String law = "50+5*temper-told";
    private List<int[]> book = new ArrayList<>();
    private List<World> rows = new ArrayList<>();
    private final List<Image> images = new ArrayList<>();
    private int refused;
    private final int[] status = new int[3];

    private RuntimeException noSuch() {
        status[0]++;
        return new NoSuchElementException();
    }

    private void need(boolean fine) {
        if (!fine) {
            status[1]++;
            throw new IllegalArgumentException();
        }
    }

    private void person_(int p) {
        if (p < 0 || p >= tempers.size()) {
            throw noSuch();
        }
    }

    private Claim claim_(int k) {
        if (k < 0 || k >= world.claims.size()) {
            throw noSuch();
        }
        return world.claims.get(k);
    }

    private static boolean in(int v, int low, int high) {
        return low <= v && v <= high;
    }

    // ---- texts

    private List<Token> tokens;
    private int next;
    private List<Integer> nestedAt;

    private void cut(String text) {
        tokens = new ArrayList<>();
        next = 0;
        int i = 0;
        while (i < text.length()) {
            char c = text.charAt(i);
            int from = i;
            if (c == ' ') {
                i++;
                continue;
            }
            char kind = Character.isDigit(c) && c < 128 ? 'n' : c >= 'a' && c <= 'z' ? 'w' : 's';
            do {
                i++;
            } while (i < text.length() && (kind == 'n' && text.charAt(i) >= '0' && text.charAt(i) <= '9'
                    || kind == 'w' && text.charAt(i) >= 'a' && text.charAt(i) <= 'z'));
            tokens.add(new Token(kind, text.substring(from, i), from));
        }
        tokens.add(new Token('e', "", text.length()));
    }

    private Token look() {
        return tokens.get(next);
    }

    private int num(long low, long high) {
        Token t = look();
        if (t.kind != 'n') {
            throw new Fault(1, t.at);
        }
        java.math.BigInteger v = new java.math.BigInteger(t.text);
        if (v.compareTo(java.math.BigInteger.valueOf(low)) < 0 || v.compareTo(java.math.BigInteger.valueOf(high)) > 0) {
            throw new Fault(2, t.at);
        }
        next++;
        return v.intValue();
    }

    private int otherNum(int not, int low, int high) {
        Token t = look();
        int v = num(low, high);
        if (v == not) {
            throw new Fault(2, t.at);
        }
        return v;
    }

    private void sign(String s) {
        if (!look().is(s)) {
            throw new Fault(1, look().at);
        }
        next++;
    }

    private String word(String... words) {
        Token t = look();
        if (t.kind != 'w' || !Arrays.asList(words).contains(t.text)) {
            throw new Fault(1, t.at);
        }
        next++;
        return t.text;
    }

    private String takeText(int n, int most) {
        need(n >= 0 && n <= tape.length() && n <= most);
        String s = tape.substring(0, n);
        tape.setLength(0);
        fault = -1;
        return s;
    }

    private int faulted(Fault f) {
        fault = f.place;
        return f.kind - 10;
    }

    public long feed(int a, int b, int c, int d, int e) {
        if (tape.length() + 20 > 600) {
            return -1;
        }
        for (int v : new int[] {a, b, c, d, e}) {
            for (int s = 3; s >= 0; s--) {
                tape.append((char) ((v >>> (8 * s)) & 255));
            }
        }
        return tape.length();
    }

    public long town(int n) {
        String text = takeText(n, 600);
        List<Integer> people = new ArrayList<>();
        World w = new World();
        int r = 10;
        int h = 30;
        try {
            cut(text);
            for (int clauses = 0; look().kind != 'e'; clauses++) {
                int at = look().at;
                String c = word("person", "wrong", "false", "interest", "bite");
                boolean isClaim = c.equals("wrong") || c.equals("false");
                if (clauses == 60 || c.equals("person") && people.size() == 8 || isClaim && w.claims.size() == 24) {
                    throw new Fault(3, at);
                }
                if (c.equals("person")) {
                    people.add(num(0, 9));
                } else if (c.equals("interest")) {
                    r = num(0, 50);
                } else if (c.equals("bite")) {
                    h = num(0, 100);
                } else {
                    int a = num(0, people.size() - 1);
                    int b = otherNum(a, 0, people.size() - 1);
                    make(w, a, b, num(1, 999), c.equals("wrong") ? 1 : 0);
                }
                sign(";");
            }
        } catch (Fault f) {
            return faulted(f);
        }
        tempers = people;
        interest = r;
        bite = h;
        world = w;
        law = "50+5*temper-told";
        book = new ArrayList<>();
        rows = new ArrayList<>();
        images.clear();
        refused = 0;
        return w.claims.size();
    }

    public long law(int n) {
        String text = takeText(n, 150);
        try {
            lawValue(text, new int[8]);
        } catch (Fault f) {
            return faulted(f);
        }
        law = text;
        return 1;
    }

    private static final String[] LAW_WORDS =
            {"size", "age", "temper", "heat", "passed", "told", "day", "held", "least", "most"};

    /** The law is read anew whenever it is asked. */
    private int lawValue(String text, int[] given) {
        cut(text);
        nestedAt = new ArrayList<>();
        int v = sum(given);
        if (look().kind != 'e') {
            throw new Fault(1, look().at);
        }
        return v;
    }

    private int sum(int[] given) {
        int v = product(given);
        while (look().is("+") || look().is("-")) {
            boolean plus = look().is("+");
            next++;
            int u = product(given);
            v = plus ? v + u : v - u;
        }
        return v;
    }

    private int product(int[] given) {
        int v = unit(given);
        while (look().is("*") || look().is("/")) {
            boolean times = look().is("*");
            next++;
            int u = unit(given);
            v = times ? v * u : u == 0 ? 0 : (int) ((long) v / u);
        }
        return v;
    }

    private void nest(int at) {
        if (nestedAt.size() == 6) {
            throw new Fault(3, at);
        }
        nestedAt.add(at);
    }

    private void unnest() {
        nestedAt.remove(nestedAt.size() - 1);
    }

    private int unit(int[] given) {
        Token t = look();
        if (t.kind == 'n') {
            return num(0, 999);
        }
        if (t.is("(")) {
            nest(t.at);
            next++;
            int v = sum(given);
            sign(")");
            unnest();
            return v;
        }
        String w = word(LAW_WORDS);
        if (!w.equals("least") && !w.equals("most")) {
            return given[Arrays.asList(LAW_WORDS).indexOf(w)];
        }
        nest(t.at);
        sign("[");
        int a = sum(given);
        sign(",");
        int b = sum(given);
        sign("]");
        unnest();
        return w.equals("least") ? Math.min(a, b) : Math.max(a, b);
    }

    private static boolean make(World w, int on, int by, int size, int truth) {
        if (w.claims.size() == 40) {
            return false;
        }
        Claim c = new Claim();
        c.on = on;
        c.by = by;
        c.size = size;
        c.made = w.day;
        c.truth = truth;
        w.claims.add(c);
        w.sums[1] += size;
        return true;
    }

    public long deeds(int n) {
        need(n >= 0 && n <= tape.length() && n <= 200);
        if (rows.size() == 20) {
            tape.setLength(0);
            fault = -1;
            return -20;
        }
        String text = takeText(n, 200);
        List<String[]> all = new ArrayList<>();
        try {
            cut(text);
            while (look().kind != 'e') {
                all.add(deed(all.size()));
            }
        } catch (Fault f) {
            return faulted(f);
        }
        rows.add(world.copy());
        int done = 0;
        for (String[] d : all) {
            World w = world.copy();
            if (doIt(w, d)) {
                world = w;
                done++;
            }
        }
        refused = all.size() - done;
        return done;
    }

    private String[] deed(int before) {
        int at = look().at;
        String w = word("day", "slap", "pass", "split", "join", "tell", "sorry", "wrongly", "forgive", "pay");
        if (before == 30) {
            throw new Fault(3, at);
        }
        int last = tempers.size() - 1;
        int a;
        int b = 0;
        int c = 0;
        switch (w) {
            case "day" -> a = num(1, 30);
            case "slap", "pay" -> {
                a = num(0, last);
                b = otherNum(a, 0, last);
                c = num(1, 999);
            }
            case "pass", "wrongly" -> {
                a = num(0, 39);
                b = num(0, last);
            }
            case "split" -> {
                a = num(0, 39);
                b = num(1, 999);
            }
            case "join" -> {
                a = num(0, 39);
                b = otherNum(a, 0, 39);
            }
            default -> a = num(0, 39);
        }
        sign(";");
        return new String[] {w, "" + a, "" + b, "" + c};
    }

    private static Claim standing(World w, int k) {
        return k < w.claims.size() && w.claims.get(k).stands() ? w.claims.get(k) : null;
    }

    private boolean doIt(World w, String[] d) {
        int a = Integer.parseInt(d[1]);
        int b = Integer.parseInt(d[2]);
        int c = Integer.parseInt(d[3]);
        if (d[0].equals("day")) {
            w.day += a;
            return true;
        }
        if (d[0].equals("slap")) {
            return make(w, a, b, c, 1);
        }
        if (d[0].equals("pay")) {
            List<Integer> with = payWith(w, a, b, c);
            for (int k : with == null ? List.<Integer>of() : with) {
                w.claims.get(k).by = b;
                w.claims.get(k).passed++;
            }
            return with != null;
        }
        Claim k = standing(w, a);
        if (k == null) {
            return false;
        }
        switch (d[0]) {
            case "pass":
                if (k.by == b) {
                    return false;
                }
                k.by = b;
                k.passed++;
                if (k.on == b) {
                    k.fate = 3;
                    w.sums[4] += k.size;
                }
                return true;
            case "split":
                if (k.size <= b || w.claims.size() == 40) {
                    return false;
                }
                Claim rest = k.copy();
                rest.size -= b;
                k.size = b;
                w.claims.add(rest);
                return true;
            case "join":
                Claim j = standing(w, b);
                if (j == null || j.on != k.on || j.by != k.by || j.truth != k.truth || j.size + k.size > 9999) {
                    return false;
                }
                k.size += j.size;
                j.fate = 4;
                return true;
            case "tell":
                if (k.last == w.day) {
                    return false;
                }
                int more = grow(k.size) - k.size;
                k.size += more;
                w.sums[1] += more;
                k.told++;
                k.last = w.day;
                return true;
            case "sorry":
                if (meantOf(w, k, held(w, k.by)) < bite) {
                    return false;
                }
                k.fate = 1;
                w.sums[2] += k.size;
                return true;
            case "wrongly":
                return k.on != b && k.by != b && make(w, b, k.by, 1, 1);
            default:
                k.fate = 2;
                w.sums[3] += k.size;
                return true;
        }
    }

    private int grow(int size) {
        int more = size * interest / 100;
        if (more < 1) {
            more = 1;
        }
        return size + more > 9999 ? 9999 : size + more;
    }

    private static int held(World w, int p) {
        return (int) w.claims.stream().filter(c -> c.stands() && c.by == p).count();
    }

    private int meantOf(World w, Claim c, int held) {
        return limit(lawValue(law, new int[] {c.size, w.day - c.made, tempers.get(c.on), tempers.get(c.by),
            c.passed, c.told, w.day, held}));
    }

    private static int limit(int v) {
        return v < 0 ? 0 : v > 99 ? 99 : v;
    }

    /** Sets of one CLAIM, of two, and so on, each by the least numbers; the first that fits. */
    private static List<Integer> payWith(World w, int a, int b, int n) {
        List<Integer> mine = new ArrayList<>();
        for (int k = 0; k < w.claims.size(); k++) {
            Claim c = w.claims.get(k);
            if (c.stands() && c.by == a && c.on != b && c.size <= n) {
                mine.add(k);
            }
        }
        HashSet<List<Integer>> vain = new HashSet<>();
        for (int many = 1; many <= mine.size(); many++) {
            List<Integer> found = choose(w, mine, 0, many, n, vain);
            if (found != null) {
                return found;
            }
        }
        return null;
    }

    private static List<Integer> choose(World w, List<Integer> mine, int from, int many, int n,
            HashSet<List<Integer>> vain) {
        if (many == 0) {
            return n == 0 ? new ArrayList<>() : null;
        }
        if (!vain.add(List.of(from, many, n))) {
            return null;
        }
        for (int i = from; i + many <= mine.size(); i++) {
            int size = w.claims.get(mine.get(i)).size;
            if (size > n) {
                continue;
            }
            List<Integer> rest = choose(w, mine, i + 1, many - 1, n - size, vain);
            if (rest != null) {
                rest.add(0, mine.get(i));
                return rest;
            }
        }
        return null;
    }

    public long book(int n) {
        String text = takeText(n, 150);
        List<int[]> lines = new ArrayList<>();
        try {
            cut(text);
            while (look().kind != 'e') {
                int at = look().at;
                int p = num(0, tempers.size() - 1);
                if (lines.size() == 8) {
                    throw new Fault(3, at);
                }
                boolean minus = look().is("-");
                next += minus ? 1 : 0;
                int v = num(0, 9999);
                sign(";");
                lines.add(new int[] {p, minus ? -v : v});
            }
        } catch (Fault f) {
            return faulted(f);
        }
        book = lines;
        return lines.size();
    }

    public long fault() {
        return fault;
    }

    public long undo() {
        if (rows.isEmpty()) {
            return -1;
        }
        world = rows.remove(rows.size() - 1);
        refused = 0;
        return rows.size();
    }

    // ---- questions

    public long told(int what) {
        need(in(what, 0, 7));
        return new long[] {tempers.size(), world.claims.size(), world.claims.stream().filter(Claim::stands).count(),
            world.day, interest, bite, book.size(), refused}[what];
    }

    public long claim(int k, int what) {
        Claim c = claim_(k);
        need(in(what, 0, 7));
        return new int[] {c.on, c.by, c.size, c.made, c.passed, c.told, c.truth, c.fate}[what];
    }

    public long person(int p, int what) {
        person_(p);
        need(in(what, 0, 4));
        int[] a = {tempers.get(p), 0, 0, 0, 0};
        for (Claim c : world.claims) {
            if (c.stands() && c.by == p) {
                a[1] += c.size;
                a[3]++;
            }
            if (c.stands() && c.on == p) {
                a[2] += c.size;
                a[4]++;
            }
        }
        return a[what];
    }

    private static int worthIn(World w, int p, boolean truly, long without) {
        int v = 0;
        for (int k = 0; k < w.claims.size(); k++) {
            Claim c = w.claims.get(k);
            if (c.stands() && !(truly && c.truth == 0) && (without >> k & 1) == 0) {
                v += c.by == p ? c.size : 0;
                v -= c.on == p ? c.size : 0;
            }
        }
        return v;
    }

    public long worth(int p, int what) {
        person_(p);
        need(in(what, 0, 1));
        return worthIn(world, p, what == 1, 0);
    }

    private static int allStanding(World w) {
        return w.claims.stream().filter(Claim::stands).mapToInt(c -> c.size).sum();
    }

    public long sums(int what) {
        need(in(what, 0, 4));
        return what == 0 ? allStanding(world) : world.sums[what];
    }

    private int owed(int p, int o) {
        return world.claims.stream().filter(c -> c.stands() && c.on == p && c.by == o).mapToInt(c -> c.size).sum();
    }

    public long between(int p, int o) {
        person_(p);
        person_(o);
        return owed(p, o);
    }

    public long meant(int k) {
        Claim c = claim_(k);
        return meantOf(world, c, held(world, c.by));
    }

    public long would(int size, int age, int temper, int heat, int told) {
        need(in(size, 0, 9999) && in(age, 0, 999) && in(temper, 0, 9) && in(heat, 0, 9) && in(told, 0, 999));
        return limit(lawValue(law, new int[] {size, age, temper, heat, 0, told, 0, 0}));
    }

    private boolean opens(Claim c) {
        return c.stands() && meantOf(world, c, held(world, c.by)) >= bite;
    }

    public long open() {
        long bits = 0;
        for (int k = 0; k < world.claims.size(); k++) {
            bits += opens(world.claims.get(k)) ? 1L << k : 0;
        }
        return bits;
    }

    public long pays(int p, int o, int n) {
        person_(p);
        person_(o);
        need(p != o && in(n, 1, 999));
        List<Integer> with = payWith(world, p, o, n);
        long bits = 0;
        for (int k : with == null ? List.<Integer>of() : with) {
            bits |= 1L << k;
        }
        return bits;
    }

    private TreeSet<Integer> sumsOf(int p) {
        TreeSet<Integer> all = new TreeSet<>();
        all.add(0);
        for (Claim c : world.claims) {
            if (c.stands() && c.by == p) {
                for (int s : new ArrayList<>(all)) {
                    all.add(s + c.size);
                }
            }
        }
        return all;
    }

    public long cover(int p, int n) {
        person_(p);
        need(in(n, 0, 9999));
        Integer s = sumsOf(p).ceiling(n);
        return s == null ? -1 : s;
    }

    public long ways(int p) {
        person_(p);
        return sumsOf(p).subSet(1, true, 9999, true).size();
    }

    private List<Integer> bestGroups;
    private final int[] worths = new int[8];

    private void partition(int p, int[] groups, int used) {
        if (p == tempers.size()) {
            for (int i = 0; i < used; i++) {
                int v = 0;
                for (int q = 0; q < p; q++) {
                    v += (groups[i] >> q & 1) == 0 ? 0 : worths[q];
                }
                if (v != 0) {
                    return;
                }
            }
            List<Integer> mine = new ArrayList<>();
            for (int i = 0; i < used; i++) {
                mine.add(groups[i]);
            }
            if (bestGroups == null || mine.size() > bestGroups.size() || mine.size() == bestGroups.size()
                    && before(mine, bestGroups)) {
                bestGroups = mine;
            }
            return;
        }
        if (worths[p] == 0) {
            partition(p + 1, groups, used);
            return;
        }
        for (int i = 0; i <= used; i++) {
            groups[i] |= 1 << p;
            partition(p + 1, groups, Math.max(used, i + 1));
            groups[i] &= ~(1 << p);
        }
    }

    private static boolean before(List<Integer> a, List<Integer> b) {
        for (int i = 0; i < a.size(); i++) {
            if (!a.get(i).equals(b.get(i))) {
                return a.get(i) < b.get(i);
            }
        }
        return false;
    }

    private List<Integer> groups() {
        bestGroups = null;
        for (int p = 0; p < tempers.size(); p++) {
            worths[p] = worthIn(world, p, false, 0);
        }
        partition(0, new int[9], 0);
        return bestGroups;
    }

    public long even(int what) {
        need(in(what, 0, 1));
        int g = groups().size();
        return what == 1 ? g : tempers.size() - Long.bitCount(square()) - g;
    }

    public long group(int i) {
        List<Integer> g = groups();
        return i >= 0 && i < g.size() ? g.get(i) : -1;
    }

    private int[] bestDay;
    private int bestDaySum;

    private void say(int p, int[] claims, int heard, int sum) {
        if (p == tempers.size()) {
            if (sum > bestDaySum) {
                bestDaySum = sum;
                bestDay = claims.clone();
            }
            return;
        }
        claims[p] = -1;
        say(p + 1, claims, heard, sum);
        for (int h = 0; h < tempers.size(); h++) {
            int best = -1;
            for (int k = 0; k < world.claims.size(); k++) {
                Claim c = world.claims.get(k);
                boolean fits = dayOpen[k] && c.on == p && c.by == h && (heard >> h & 1) == 0;
                if (fits && (best < 0 || c.size > world.claims.get(best).size)) {
                    best = k;
                }
            }
            if (best >= 0) {
                claims[p] = best;
                say(p + 1, claims, heard | 1 << h, sum + world.claims.get(best).size);
            }
        }
        claims[p] = -1;
    }

    private boolean[] dayOpen;

    private void day_() {
        dayOpen = new boolean[world.claims.size()];
        for (int k = 0; k < dayOpen.length; k++) {
            dayOpen[k] = opens(world.claims.get(k));
        }
        bestDaySum = -1;
        say(0, new int[tempers.size()], 0, 0);
    }

    public long oneDay() {
        day_();
        return bestDaySum;
    }

    public long says(int p) {
        person_(p);
        day_();
        return bestDay[p];
    }

    public long lies(int what) {
        need(in(what, 0, 1));
        List<Integer> up = new ArrayList<>();
        for (int k = 0; k < world.claims.size(); k++) {
            if (world.claims.get(k).stands()) {
                up.add(k);
            }
        }
        if (up.size() > 16) {
            status[2]++;
            throw new IllegalStateException();
        }
        long best = -1;
        for (int m = 0; m < 1 << up.size(); m++) {
            if (best >= 0 && Integer.bitCount(m) >= Long.bitCount(best)) {
                continue;
            }
            long bits = 0;
            for (int i = 0; i < up.size(); i++) {
                bits |= (m >> i & 1) == 0 ? 0 : 1L << up.get(i);
            }
            boolean fits = true;
            for (int[] line : book) {
                fits = fits && worthIn(world, line[0], false, bits) == line[1];
            }
            if (fits) {
                best = bits;
            }
        }
        return best < 0 ? -1 : what == 1 ? best : Long.bitCount(best);
    }

    public long right() {
        int n = 0;
        for (int[] line : book) {
            if (worthIn(world, line[0], true, 0) != line[1]) {
                break;
            }
            n++;
        }
        return n;
    }

    private int errors_(int h, int what) {
        int n = 0;
        for (Claim c : world.claims) {
            if (c.stands()) {
                boolean paid = meantOf(world, c, held(world, c.by)) >= h;
                n += what == 0 && c.truth == 1 && !paid || what == 1 && c.truth == 0 && paid ? 1 : 0;
            }
        }
        return n;
    }

    public long errors(int h, int what) {
        need(in(h, 0, 100) && in(what, 0, 1));
        return errors_(h, what);
    }

    public long best() {
        int best = 0;
        int least = Integer.MAX_VALUE;
        for (int h = 0; h <= 100; h++) {
            int e = errors_(h, 0) + errors_(h, 1);
            if (e < least) {
                least = e;
                best = h;
            }
        }
        return best;
    }

    public long bite(int h) {
        need(in(h, 0, 100));
        int was = bite;
        bite = h;
        return was;
    }

    private int swell_(int n) {
        World w = world.copy();
        for (int i = 0; i < n; i++) {
            w.day++;
            for (int k = 0; k < w.claims.size(); k++) {
                doIt(w, new String[] {"tell", "" + k, "0", "0"});
            }
        }
        return allStanding(w);
    }

    public long swell(int n) {
        need(in(n, 0, 60));
        return swell_(n);
    }

    public long burst(int x) {
        for (int n = 1; n <= 60; n++) {
            if (swell_(n) >= x) {
                return n;
            }
        }
        return -1;
    }

    public long till(int a, int b, int c, int d) {
        need(in(a, -99, 99) && in(b, -99, 99) && in(c, -99, 99) && in(d, -99, 99));
        int[][] gets = {{a, b}, {c, d}};
        long bits = 0;
        for (int x = 0; x < 2; x++) {
            for (int y = 0; y < 2; y++) {
                boolean settled = gets[1 - x][y] <= gets[x][y] && gets[1 - y][x] <= gets[y][x];
                bits |= settled ? 1 << (2 * x + y) : 0;
            }
        }
        return bits;
    }

    private int richestIn(World w) {
        int best = -1;
        for (int p = 0; p < tempers.size(); p++) {
            if (best < 0 || worthIn(w, p, false, 0) > worthIn(w, best, false, 0)) {
                best = p;
            }
        }
        return best;
    }

    public long extreme(int what) {
        need(in(what, 0, 1));
        if (what == 0) {
            return richestIn(world);
        }
        int best = -1;
        for (int p = 0; p < tempers.size(); p++) {
            if (best < 0 || worthIn(world, p, false, 0) < worthIn(world, best, false, 0)) {
                best = p;
            }
        }
        return best;
    }

    public long chosen(int what) {
        need(in(what, 0, 1));
        int best = -1;
        for (int k = 0; k < world.claims.size(); k++) {
            Claim c = world.claims.get(k);
            if (!c.stands()) {
                continue;
            }
            Claim b = best < 0 ? null : world.claims.get(best);
            if (b == null || what == 0 && c.made < b.made || what == 1
                    && meantOf(world, c, held(world, c.by)) > meantOf(world, b, held(world, b.by))) {
                best = k;
            }
        }
        return best;
    }

    public long heard(int p) {
        person_(p);
        World w = world.copy();
        int all = 0;
        for (int k = 0; k < w.claims.size(); k++) {
            Claim c = w.claims.get(k);
            if (c.stands() && c.by == p && doIt(w, new String[] {"sorry", "" + k, "0", "0"})) {
                all += c.size;
            }
        }
        return all;
    }

    public long payers(int p, int n) {
        person_(p);
        need(in(n, 1, 999));
        long bits = 0;
        for (int o = 0; o < tempers.size(); o++) {
            bits |= o != p && payWith(world, o, p, n) != null ? 1 << o : 0;
        }
        return bits;
    }

    public long lacking(int p, int n) {
        person_(p);
        need(in(n, 0, 9999));
        return n - sumsOf(p).floor(n);
    }

    public long grown(int k, int n) {
        Claim c = claim_(k);
        need(in(n, 0, 60));
        int size = c.stands() ? c.size : 0;
        for (int i = 0; i < n && c.stands(); i++) {
            size = grow(size);
        }
        return size;
    }

    public long square() {
        long bits = 0;
        for (int p = 0; p < tempers.size(); p++) {
            bits |= worthIn(world, p, false, 0) == 0 ? 1 << p : 0;
        }
        return bits;
    }

    public long aged(int n) {
        need(in(n, 0, 9999));
        long bits = 0;
        for (int k = 0; k < world.claims.size(); k++) {
            Claim c = world.claims.get(k);
            bits |= c.stands() && c.made + n <= world.day ? 1L << k : 0;
        }
        return bits;
    }

    public long master(int p) {
        person_(p);
        int best = -1;
        for (int o = 0; o < tempers.size(); o++) {
            if (owed(p, o) > (best < 0 ? 0 : owed(p, best))) {
                best = o;
            }
        }
        return best;
    }

    private long seed;

    private int draw(int by) {
        seed = (seed * 1103515245L + 12345L) & 0xFFFFFFFFL;
        return (int) ((seed / 65536) % 32768) % by;
    }

    private int[] month_(int s, int n, int q, int z) {
        World w = world.copy();
        seed = s & 0xFFFFFFFFL;
        int saints = 0;
        int people = tempers.size();
        for (int d = 0; d < n; d++) {
            w.day++;
            for (int p = 0; p < people; p++) {
                if (draw(16) < q && people > 1) {
                    int whom = draw(people - 1);
                    int size = draw(9) + 1;
                    make(w, p, (p + 1 + whom) % people, size, 1);
                }
            }
            if (draw(16) < z) {
                Claim top = null;
                for (Claim c : w.claims) {
                    top = c.stands() && (top == null || c.size > top.size) ? c : top;
                }
                if (top != null) {
                    top.fate = 2;
                    saints += top.size;
                }
            }
        }
        return new int[] {allStanding(w), (int) w.claims.stream().filter(Claim::stands).count(), saints, richestIn(w)};
    }

    public long month(int s, int n, int q, int z, int what) {
        need(in(n, 1, 30) && in(q, 0, 16) && in(z, 0, 16) && in(what, 0, 3));
        return month_(s, n, q, z)[what];
    }

    public long span(int s, int many, int n, int q, int z, int what, int p) {
        need(in(many, 1, 20) && in(n, 1, 30) && in(q, 0, 16) && in(z, 0, 16) && in(what, 0, 2)
                && in(p, 0, tempers.size() - 1));
        TreeSet<Integer> all = new TreeSet<>();
        int first = 0;
        for (int i = 0; i < many; i++) {
            int[] m = month_(s + i, n, q, z);
            all.add(m[0]);
            first += m[3] == p ? 1 : 0;
        }
        return what == 0 ? all.first() : what == 1 ? all.last() : first;
    }

    private static List<World> copies(List<World> all) {
        List<World> to = new ArrayList<>();
        for (World w : all) {
            to.add(w.copy());
        }
        return to;
    }

    public long image() {
        if (images.size() == 3) {
            return -1;
        }
        images.add(new Image(world.copy(), copies(rows), bite));
        return images.size();
    }

    public long restore() {
        if (images.isEmpty()) {
            return -1;
        }
        Image i = images.remove(images.size() - 1);
        world = i.world;
        rows = i.rows;
        bite = i.bite;
        refused = 0;
        return images.size();
    }

    public long status(int what) {
        return in(what, 0, 2) ? status[what] : -1;
    }

    public long count(int what) {
        return what == 0 ? images.size() : what == 1 ? tape.length() : what == 2 ? rows.size() : -1;
    }
}
