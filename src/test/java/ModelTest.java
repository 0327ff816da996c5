import java.lang.reflect.InvocationTargetException;
import java.lang.reflect.Method;
import java.lang.reflect.Modifier;
import java.util.ArrayList;
import java.util.Arrays;
import java.util.Comparator;
import java.util.List;
import java.util.Random;
import support.Check;
import support.Model;
import support.Texts;

/** Runs of calls by chance, each answer compared with a naive model of the document. */
public final class ModelTest {
    private static final int RUNS = 1500;
    private static final int CALLS = 500;
    /** A text takes 33 calls at the most, and an object is used for 512. */
    private static final int LAST_TEXT = 479;

    private final Random random;
    private final Texts texts;
    private final SorryPurses purses = new SorryPurses();
    private final Model model = new Model();
    private final List<String> trail = new ArrayList<>();
    private int calls;

    private ModelTest(long seed) {
        random = new Random(seed);
        texts = new Texts(random);
    }

    public static void main(String[] args) {
        int runs = args.length > 1 ? Integer.parseInt(args[1]) : RUNS;
        long first = args.length > 2 ? Long.parseLong(args[2]) : 1;
        List<Method> face = face();
        Check.due("methods of the face that the model has", 46, face.size());
        for (long seed = first; seed < first + runs && Check.wrongSoFar() == 0; seed++) {
            Check.about("seed " + seed);
            new ModelTest(seed).run(face);
        }
        Check.end();
    }

    private static List<Method> face() {
        List<Method> face = new ArrayList<>();
        for (Method m : SorryPurses.class.getDeclaredMethods()) {
            if (Modifier.isPublic(m.getModifiers())) {
                face.add(m);
            }
        }
        face.sort(Comparator.comparing(Method::getName));
        return face;
    }

    private void run(List<Method> face) {
        text("town", texts.town());
        for (int i = 0; i < CALLS && calls < LAST_TEXT && Check.wrongSoFar() == 0; i++) {
            int chance = random.nextInt(100);
            if (chance < 1) {
                text("town", texts.town());
            } else if (chance < 4) {
                text("law", texts.law());
            } else if (chance < 12) {
                text("deeds", texts.deeds((int) model.told(0), (int) model.told(1)));
            } else if (chance < 15) {
                text("book", texts.book((int) model.told(0), worths()));
            } else {
                Method m = face.get(random.nextInt(face.size()));
                compare(m, args(m));
            }
        }
        if (Check.wrongSoFar() != 0) {
            trail.forEach(System.out::println);
        }
    }

    private long[] worths() {
        long[] all = new long[(int) model.told(0)];
        for (int p = 0; p < all.length; p++) {
            all[p] = model.worth(p, random.nextInt(5) == 0 ? 0 : 1);
        }
        return all;
    }

    private void text(String name, String text) {
        int extra = random.nextInt(20) == 0 ? 20 : 0;
        int padded = (text.length() + 19) / 20 * 20 + extra;
        for (int i = 0; i < padded; i += 20) {
            Object[] five = new Object[5];
            for (int j = 0; j < 5; j++) {
                int v = 0;
                for (int b = 0; b < 4; b++) {
                    int at = i + 4 * j + b;
                    v = v << 8 | (at < text.length() ? text.charAt(at) : random.nextInt(256));
                }
                five[j] = v;
            }
            compare(method("feed"), five);
        }
        trail.add("text: " + text);
        compare(method(name), text.length());
        compare(method("fault"));
    }

    private static Method method(String name) {
        for (Method m : SorryPurses.class.getDeclaredMethods()) {
            if (m.getName().equals(name)) {
                return m;
            }
        }
        throw new AssertionError(name);
    }

    private Object[] args(Method m) {
        String name = m.getName();
        int[] tops = tops(name);
        Object[] args = new Object[tops.length];
        for (int i = 0; i < args.length; i++) {
            args[i] = arg(tops[i]);
        }
        if (name.equals("till")) {
            for (int i = 0; i < 4; i++) {
                args[i] = random.nextInt(40) == 0 ? random.nextInt(203) - 101 : random.nextInt(5) - 2;
            }
        }
        if (name.equals("lies") && model.told(2) > 12 && model.told(2) <= 16 && random.nextInt(8) != 0) {
            args[0] = 7;
        }
        return args;
    }

    /** Of each argument the most that the document allows; -1: any number. */
    private int[] tops(String name) {
        int people = Math.max(0, (int) model.told(0) - 1);
        int claims = Math.max(0, (int) model.told(1) - 1);
        switch (name) {
            case "feed":
                return new int[] {-1, -1, -1, -1, -1};
            case "town":
            case "law":
            case "deeds":
            case "book":
                return new int[] {random.nextInt(4) == 0 ? (int) model.count(1) : 201};
            case "told":
                return new int[] {7};
            case "claim":
                return new int[] {claims, 7};
            case "person":
                return new int[] {people, 4};
            case "worth":
                return new int[] {people, 1};
            case "sums":
                return new int[] {4};
            case "between":
                return new int[] {people, people};
            case "meant":
                return new int[] {claims};
            case "would":
                return new int[] {9999, 999, 9, 9, random.nextBoolean() ? 999 : 9};
            case "pays":
                return new int[] {people, people, small(999)};
            case "cover":
            case "lacking":
                return new int[] {people, small(9999)};
            case "payers":
                return new int[] {people, small(999)};
            case "ways":
            case "says":
            case "heard":
            case "master":
                return new int[] {people};
            case "even":
            case "lies":
            case "extreme":
            case "chosen":
                return new int[] {1};
            case "group":
                return new int[] {3};
            case "errors":
                return new int[] {100, 1};
            case "bite":
                return new int[] {100};
            case "swell":
                return new int[] {60};
            case "burst":
                return new int[] {random.nextBoolean() ? 3000 : 100000};
            case "till":
                return new int[] {99, 99, 99, 99};
            case "grown":
                return new int[] {claims, 60};
            case "aged":
                return new int[] {random.nextBoolean() ? 9999 : 5};
            case "month":
                return new int[] {-1, 30, 16, 16, 3};
            case "span":
                return new int[] {-1, 20, 30, 16, 16, 2, people};
            case "status":
            case "count":
                return new int[] {2};
            default:
                return new int[0];
        }
    }

    private int small(int most) {
        int[] tops = {most, 20, 60, 200};
        return tops[random.nextInt(4)];
    }

    private int arg(int top) {
        if (top < 0) {
            return random.nextInt();
        }
        int chance = random.nextInt(60);
        if (chance == 0) {
            return top + 1;
        }
        if (chance == 1) {
            return -1;
        }
        if (chance == 2) {
            return random.nextInt();
        }
        if (chance == 3) {
            return random.nextBoolean() ? Integer.MIN_VALUE : Integer.MAX_VALUE;
        }
        return chance < 8 ? top : random.nextInt(top + 1);
    }

    private void compare(Method m, Object... args) {
        calls++;
        String call = m.getName() + Arrays.toString(args);
        String want = outcome(modelMethod(m), model, args);
        String got = outcome(m, purses, args);
        trail.add(call + " = " + want);
        Check.due(call, want, got);
    }

    private static Method modelMethod(Method m) {
        try {
            return Model.class.getMethod(m.getName(), m.getParameterTypes());
        } catch (NoSuchMethodException e) {
            throw new AssertionError(e);
        }
    }

    private static String outcome(Method m, Object of, Object... args) {
        try {
            return "" + ((Number) m.invoke(of, args)).longValue();
        } catch (InvocationTargetException e) {
            return "throws " + e.getCause().getClass().getSimpleName();
        } catch (IllegalAccessException e) {
            throw new AssertionError(e);
        }
    }
}
