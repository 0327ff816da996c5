import java.nio.ByteBuffer;
import java.nio.charset.StandardCharsets;
import java.util.Arrays;
import java.util.NoSuchElementException;
import support.Check;

/** How the tests play with a town. Without a package, for a class in a package can't name SorryPurses. */
abstract class Play {
    static final Class<NoSuchElementException> NO_SUCH = NoSuchElementException.class;
    static final Class<IllegalArgumentException> BAD = IllegalArgumentException.class;
    static final Class<IllegalStateException> STATE = IllegalStateException.class;

    static final String THREE = "person 4;person 7;person 0;";
    static final String FOUR = "person 1;person 1;person 1;person 1;";
    static final String STREET = THREE
            + "wrong 0 1 20;wrong 1 2 35;false 2 0 12;wrong 0 1 5;interest 10;bite 60;";

    private static final int[] EACH = {0, 1, 2, 3, 4, 5, 6, 7};
    private static final int[] SOME = {1, 2, 7};

    /** Feeds the text, filled up with bytes 0 to a whole call; answers its length. */
    static int put(SorryPurses x, String text) {
        byte[] bytes = Arrays.copyOf(text.getBytes(StandardCharsets.ISO_8859_1), (text.length() + 19) / 20 * 20);
        ByteBuffer b = ByteBuffer.wrap(bytes);
        for (int i = 0; i < bytes.length; i += 20) {
            x.feed(b.getInt(), b.getInt(), b.getInt(), b.getInt(), b.getInt());
        }
        return text.length();
    }

    static SorryPurses town(String text) {
        SorryPurses x = new SorryPurses();
        int answer = x.town(put(x, text));
        if (answer < 0) {
            Check.due("town " + text, "a town", "fault " + answer + " at " + x.fault());
        }
        return x;
    }

    static int law(SorryPurses x, String text) {
        return x.law(put(x, text));
    }

    static int deeds(SorryPurses x, String text) {
        return x.deeds(put(x, text));
    }

    static int book(SorryPurses x, String text) {
        return x.book(put(x, text));
    }

    /** By the name of the call that reads it: town, law, deeds or book. */
    static int read(SorryPurses x, String what, int n) {
        return switch (what) {
            case "town" -> x.town(n);
            case "law" -> x.law(n);
            case "deeds" -> x.deeds(n);
            default -> x.book(n);
        };
    }

    static String many(String text, int times) {
        return text.repeat(times);
    }

    /** What DEEDS can change, as a text; of many CLAIMS only who holds them, sizes and what became of them. */
    static String world(SorryPurses x) {
        StringBuilder all = new StringBuilder("day ").append(x.told(3));
        for (int what = 0; what < 5; what++) {
            all.append(" sum ").append(x.sums(what));
        }
        int claims = x.told(1);
        for (int k = 0; k < claims; k++) {
            all.append("; claim ").append(k).append(':');
            for (int what : claims > 6 ? SOME : EACH) {
                all.append(' ').append(x.claim(k, what));
            }
        }
        return all.toString();
    }

    /** What any call can change but the TAPE, the FAULT and how many calls were refused, as a text. */
    static String all(SorryPurses x) {
        StringBuilder all = new StringBuilder(world(x));
        for (int what = 0; what < 8; what++) {
            all.append("; told ").append(x.told(what));
        }
        for (int p = 0; p < x.told(0); p++) {
            all.append("; temper ").append(x.person(p, 0));
        }
        all.append("; images ").append(x.count(0)).append("; rows ").append(x.count(2));
        all.append("; the law ").append(x.would(7, 3, 5, 2, 1)).append(' ').append(x.would(90, 50, 9, 1, 20));
        all.append("; the book ").append(x.right());
        return all.toString();
    }

    /** The call is refused with that exception, which is counted, and all stays. */
    static void refuses(SorryPurses x, Class<? extends RuntimeException> why, String call, Check.Call asks) {
        String before = all(x) + x.fault() + " " + x.count(1);
        int[] counted = {x.status(0), x.status(1), x.status(2)};
        Check.refused(call, why, asks);
        counted[why == NO_SUCH ? 0 : why == BAD ? 1 : 2]++;
        for (int i = 0; i < 3; i++) {
            Check.due(call + ": status " + i, counted[i], x.status(i));
        }
        Check.due(call + ": all stays", before, all(x) + x.fault() + " " + x.count(1));
    }
}
