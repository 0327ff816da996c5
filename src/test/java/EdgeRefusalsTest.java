import java.lang.reflect.InvocationTargetException;
import java.lang.reflect.Method;
import java.lang.reflect.Modifier;
import java.util.ArrayList;
import java.util.Arrays;
import java.util.List;
import support.Check;

/**
 * Of each call with an exception: the last argument on either side of the edge, what is looked at first, and what
 * stays as it was. And no call throws anything else, whatever it is asked.
 */
public final class EdgeRefusalsTest extends Play {
    private static final int LEAST = Integer.MIN_VALUE;
    private static final int MOST = Integer.MAX_VALUE;
    /** STREET has so many PEOPLE and CLAIMS. */
    private static final int PEOPLE = 3;
    private static final int CLAIMS = 5;

    private record Part(boolean number, int low, int high) {
    }

    public static void main(String[] args) {
        asked("told", what(7));
        asked("claim", claim(), what(7));
        asked("person", person(), what(4));
        asked("worth", person(), what(1));
        asked("sums", what(4));
        asked("between", person(), person());
        asked("meant", claim());
        asked("would", in(0, 9999), in(0, 999), in(0, 9), in(0, 9), in(0, 999));
        asked("cover", person(), in(0, 9999));
        asked("ways", person());
        asked("even", what(1));
        asked("says", person());
        asked("lies", what(1));
        asked("errors", in(0, 100), what(1));
        asked("bite", in(0, 100));
        asked("swell", in(0, 60));
        asked("till", in(-99, 99), in(-99, 99), in(-99, 99), in(-99, 99));
        asked("extreme", what(1));
        asked("chosen", what(1));
        asked("heard", person());
        asked("payers", person(), in(1, 999));
        asked("lacking", person(), in(0, 9999));
        asked("grown", claim(), in(0, 60));
        asked("aged", in(0, 9999));
        asked("master", person());
        asked("month", any(), in(1, 30), in(0, 16), in(0, 16), what(3));
        asked("span", any(), in(1, 20), in(1, 30), in(0, 16), in(0, 16), what(2), in(0, PEOPLE - 1));
        pays();
        nobody();
        goneClaims();
        neverRefused();
        ofOneKind();
        sweep();
        Check.end();
    }

    private static Part what(int high) {
        return in(0, high);
    }

    private static Part in(int low, int high) {
        return new Part(true, low, high);
    }

    private static Part any() {
        return in(LEAST, MOST);
    }

    private static Part person() {
        return new Part(false, 0, PEOPLE - 1);
    }

    private static Part claim() {
        return new Part(false, 0, CLAIMS - 1);
    }

    /** With all four kinds of answers: a law, a book, a row with a claim told, one paid and one made, an image. */
    private static SorryPurses street() {
        SorryPurses x = town(STREET);
        law(x, "60+size/10");
        book(x, "0 -20;");
        deeds(x, "day 1;tell 0;sorry 3;slap 2 1 4;sorry 9;");
        x.image();
        return x;
    }

    private static Method method(String name) {
        for (Method m : SorryPurses.class.getDeclaredMethods()) {
            if (m.getName().equals(name)) {
                return m;
            }
        }
        throw new AssertionError(name);
    }

    private static long answer(Method m, SorryPurses x, Object[] args) {
        try {
            return ((Number) m.invoke(x, args)).longValue();
        } catch (InvocationTargetException e) {
            if (e.getCause() instanceof RuntimeException r) {
                throw r;
            }
            throw new AssertionError(e);
        } catch (IllegalAccessException e) {
            throw new AssertionError(e);
        }
    }

    /** Each argument at its edges and beyond, the others as they should be; then two beyond at one time. */
    private static void asked(String name, Part... parts) {
        Check.about("refusals of " + name);
        for (int i = 0; i < parts.length; i++) {
            for (int edge : new int[] {parts[i].low, parts[i].high}) {
                Object[] args = inside(parts);
                args[i] = edge;
                taken(name, args);
            }
            for (int beyond : beyond(parts[i])) {
                Object[] args = inside(parts);
                args[i] = beyond;
                refused(name, args, parts[i].number ? BAD : NO_SUCH);
                for (int j = 0; j < parts.length; j++) {
                    int[] other = beyond(parts[j]);
                    if (j != i && other.length > 0) {
                        Object[] both = args.clone();
                        both[j] = other[0];
                        refused(name, both, parts[i].number && parts[j].number ? BAD : NO_SUCH);
                    }
                }
            }
        }
    }

    private static int[] beyond(Part part) {
        if (part.low == LEAST) {
            return new int[0];
        }
        return new int[] {part.low - 1, part.high + 1, LEAST, MOST};
    }

    private static Object[] inside(Part[] parts) {
        Object[] args = new Object[parts.length];
        for (int i = 0; i < parts.length; i++) {
            args[i] = parts[i].low == LEAST ? 77 : parts[i].low + (parts[i].high > parts[i].low ? 1 : 0);
        }
        return args;
    }

    private static void taken(String name, Object[] args) {
        SorryPurses x = street();
        String got = Check.outcome(() -> answer(method(name), x, args));
        Check.due(name + Arrays.toString(args) + " answers", 0, got.startsWith("throws") ? 1 : 0);
        Check.due("none is refused", 0, x.status(0) + x.status(1) + x.status(2));
    }

    private static void refused(String name, Object[] args, Class<? extends RuntimeException> why) {
        SorryPurses x = street();
        refuses(x, why, name + Arrays.toString(args), () -> answer(method(name), x, args));
    }

    private static void pays() {
        Check.about("refusals of pays");
        taken("pays", new Object[] {0, 2, 1});
        taken("pays", new Object[] {2, 0, 999});
        for (int n : new int[] {0, 1000, -1, LEAST, MOST}) {
            refused("pays", new Object[] {0, 1, n}, BAD);
            refused("pays", new Object[] {1, 1, n}, BAD);
        }
        for (int p = 0; p < PEOPLE; p++) {
            refused("pays", new Object[] {p, p, 1}, BAD);
            refused("pays", new Object[] {p, p, 999}, BAD);
        }
        for (int none : new int[] {-1, PEOPLE, LEAST, MOST}) {
            refused("pays", new Object[] {none, 0, 1}, NO_SUCH);
            refused("pays", new Object[] {0, none, 1}, NO_SUCH);
            refused("pays", new Object[] {none, none, 1}, NO_SUCH);
            refused("pays", new Object[] {none, none, 0}, NO_SUCH);
            refused("pays", new Object[] {none, 0, 0}, NO_SUCH);
            refused("pays", new Object[] {0, none, 1000}, NO_SUCH);
        }
    }

    private static void nobody() {
        Check.about("a town without people, without claims");
        String[] ofPeople = {"person", "worth", "between", "pays", "cover", "ways", "says", "heard", "payers", "lacking",
            "master"};
        for (String name : ofPeople) {
            SorryPurses x = new SorryPurses();
            Object[] args = new Object[method(name).getParameterCount()];
            Arrays.fill(args, 0);
            refuses(x, NO_SUCH, name + " of nobody", () -> answer(method(name), x, args));
        }
        for (String name : new String[] {"claim", "meant", "grown"}) {
            SorryPurses x = town(THREE);
            Object[] args = new Object[method(name).getParameterCount()];
            Arrays.fill(args, 0);
            refuses(x, NO_SUCH, name + " of none", () -> answer(method(name), x, args));
        }
        for (int what = 0; what < 3; what++) {
            SorryPurses x = new SorryPurses();
            int w = what;
            refuses(x, BAD, "span of nobody", () -> x.span(1, 1, 1, 1, 1, w, 0));
        }
    }

    private static void goneClaims() {
        Check.about("claims that are gone are claims; undone ones are none");
        SorryPurses x = street();
        Check.due("gone", 1, x.claim(3, 7));
        Check.due("meant", 60, x.meant(3));
        Check.due("grown", 0, x.grown(3, 60));
        refuses(x, BAD, "grown, ahead of what is gone", () -> x.grown(3, 61));
        Check.due("made", 4, x.claim(4, 2));
        x.undo();
        refuses(x, NO_SUCH, "undone", () -> x.claim(4, 2));
        x.restore();
        Check.due("restored", 4, x.claim(4, 2));
        x.town(0);
        Check.refused("a new town", NO_SUCH, () -> x.claim(0, 0));
        Check.refused("a new town", NO_SUCH, () -> x.person(0, 0));
    }

    private static void neverRefused() {
        Check.about("calls without an exception");
        SorryPurses x = street();
        for (int i : new int[] {LEAST, -2, -1, 3, 4, 100, MOST}) {
            Check.due("group " + i, -1, x.group(i));
            Check.due("status " + i, -1, x.status(i));
            Check.due("count " + i, -1, x.count(i));
        }
        x.burst(LEAST);
        x.burst(MOST);
        x.undo();
        x.undo();
        x.restore();
        x.restore();
        Check.due("none was refused", 0, x.status(0) + x.status(1) + x.status(2));
    }

    /** Only what the document declares is counted, each call once. */
    private static void ofOneKind() {
        Check.about("each refused call is counted once");
        SorryPurses x = town(THREE + many("wrong 0 1 1;", 17));
        Check.refused("person, what", NO_SUCH, () -> x.person(3, 5));
        Check.refused("both persons", NO_SUCH, () -> x.between(3, 3));
        Check.refused("persons, n", NO_SUCH, () -> x.pays(3, 3, 0));
        Check.refused("all", BAD, () -> x.would(-1, -1, -1, -1, -1));
        Check.refused("all", BAD, () -> x.span(1, 0, 0, -1, -1, -1, -1));
        Check.refused("what", BAD, () -> x.lies(9));
        Check.refused("n", BAD, () -> x.town(9));
        Check.refused("17 stand", STATE, () -> x.lies(0));
        Check.due("no such", 3, x.status(0));
        Check.due("arguments", 4, x.status(1));
        Check.due("states", 1, x.status(2));
    }

    private static SorryPurses state(int i) {
        switch (i) {
            case 0:
                return new SorryPurses();
            case 1:
                return town("person 3;");
            case 2:
                return street();
            case 3: {
                SorryPurses full = town(many("person 9;", 8) + "interest 50;" + many("wrong 0 7 999;", 24));
                law(full, "size*size*size/(age-1)/(held-40)-day*day");
                book(full, many("0 -9999;", 8));
                deeds(full, many("slap 7 0 999;", 15));
                deeds(full, "day 30;split 0 1;tell 1;");
                full.image();
                full.image();
                full.image();
                return full;
            }
            default: {
                SorryPurses gone = town(THREE + many("wrong 0 1 9;", 12));
                deeds(gone, "forgive 0;forgive 1;forgive 2;forgive 3;forgive 4;forgive 5;pass 6 0;join 7 8;"
                        + "sorry 7;sorry 9;sorry 10;sorry 11;");
                return gone;
            }
        }
    }

    /** Every call with every argument at some edge: it answers, or throws just what it declares. */
    private static void sweep() {
        Check.about("no call throws anything else");
        int[] values = {LEAST, -100, -1, 0, 1, 2, 7, 8, 16, 39, 40, 60, 99, 100, 999, 1000, 9999, 10000, MOST};
        for (int i = 0; i < 5; i++) {
            for (Method m : SorryPurses.class.getDeclaredMethods()) {
                if (Modifier.isPublic(m.getModifiers())) {
                    sweep(m, i, values);
                }
            }
        }
    }

    private static void sweep(Method m, int state, int[] values) {
        List<String> declared = new ArrayList<>();
        for (Class<?> type : m.getExceptionTypes()) {
            declared.add("throws " + type.getSimpleName());
        }
        int many = m.getParameterCount();
        SorryPurses x = state(state);
        int calls = 0;
        int all = (int) Math.pow(values.length, Math.min(many, 2));
        for (int c = 0; c < all; c++) {
            Object[] args = new Object[many];
            for (int j = 0; j < many; j++) {
                int at = j < 2 ? c / (j == 0 ? 1 : values.length) : c * (3 + 2 * j) + j;
                args[j] = values[at % values.length];
            }
            if (calls++ == 300) {
                x = state(state);
                calls = 0;
            }
            SorryPurses y = x;
            String got = Check.outcome(() -> answer(m, y, args));
            boolean fine = !got.startsWith("throws") || declared.contains(got);
            Check.due(m.getName() + Arrays.toString(args) + " in state " + state + ": " + got, 1, fine ? 1 : 0);
        }
    }
}
