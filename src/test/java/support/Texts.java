package support;

import java.util.Random;

/** Texts by chance: mostly as they should be, some with a byte or a word wrong. */
public final class Texts {
    private final Random random;

    public Texts(Random random) {
        this.random = random;
    }

    public int upTo(int most) {
        return random.nextInt(most + 1);
    }

    private String blanks() {
        int many = upTo(9);
        return many < 8 ? " " : many == 8 ? "  " : "   ";
    }

    /** A blank that may be missing. */
    private String gap() {
        return upTo(5) == 0 ? blanks() : "";
    }

    /** A number from low to high, at times one beyond, or with zeros ahead. */
    private String number(int low, int high) {
        int chance = upTo(400);
        if (chance == 0) {
            return "" + (high + 1);
        }
        if (chance == 1 && low > 0) {
            return "" + (low - 1);
        }
        if (chance == 2) {
            return "99999999999" + high;
        }
        int value = chance < 50 ? high : chance < 80 ? low : low + upTo(Math.max(0, high - low));
        return (chance == 90 ? "000" : "") + value;
    }

    private String other(int of, int not) {
        int value = upTo(Math.max(0, of - 1));
        if (value == not && upTo(60) != 0) {
            value = (value + 1) % Math.max(1, of);
        }
        return "" + value;
    }

    private String pair(int people) {
        int a = upTo(Math.max(0, people - 1));
        return a + blanks() + other(people, a);
    }

    public String town() {
        StringBuilder text = new StringBuilder();
        int people = upTo(9) == 0 ? upTo(8) : 2 + upTo(6);
        for (int i = 0; i < people; i++) {
            clause(text, "person" + blanks() + number(0, 9));
        }
        if (upTo(100) == 0) {
            clause(text, "person 1");
        }
        if (upTo(1) == 0) {
            clause(text, "interest" + blanks() + number(0, 50));
        }
        int claims = upTo(3) == 0 ? upTo(25) : upTo(12);
        int[] tops = {3, 9, 30, 999};
        int top = tops[upTo(3)];
        for (int i = 0; i < claims && people > 1; i++) {
            clause(text, (upTo(2) == 0 ? "false" : "wrong") + blanks() + pair(people) + blanks() + number(1, top));
        }
        if (upTo(1) == 0) {
            clause(text, "bite" + blanks() + number(0, 100));
        }
        for (int i = upTo(300) == 0 ? 61 : 0; i > 0; i--) {
            clause(text, "bite 40");
        }
        return spoil(text, 599);
    }

    private void clause(StringBuilder text, String words) {
        text.append(gap()).append(words).append(gap()).append(';');
    }

    public String deeds(int people, int claims) {
        StringBuilder text = new StringBuilder();
        int many = upTo(4) == 0 ? upTo(31) : upTo(9);
        for (int i = 0; i < many; i++) {
            clause(text, deed(people, claims));
        }
        return spoil(text, 203);
    }

    private String deed(int people, int claims) {
        String k = upTo(20) == 0 ? number(0, 39) : "" + upTo(claims);
        String b = blanks();
        switch (upTo(12)) {
            case 0:
                return "day" + b + number(1, upTo(3) == 0 ? 30 : 2);
            case 1:
                return "slap" + b + pair(people) + b + number(1, upTo(3) == 0 ? 999 : 9);
            case 2:
            case 3:
                return "pass" + b + k + b + other(people, -1);
            case 4:
                return "split" + b + k + b + number(1, upTo(2) == 0 ? 99 : 5);
            case 5:
                return "join" + b + k + b + other(claims, Integer.parseInt(k.length() > 3 ? "0" : k));
            case 6:
            case 7:
                return "tell" + b + k;
            case 8:
                return "sorry" + b + k;
            case 9:
                return "wrongly" + b + k + b + other(people, -1);
            case 10:
                return "forgive" + b + k;
            default:
                return "pay" + b + pair(people) + b + number(1, upTo(2) == 0 ? 99 : 12);
        }
    }

    public String law() {
        StringBuilder text = new StringBuilder(gap());
        if (upTo(1) == 0) {
            text.append(number(30, 70)).append(gap()).append('+');
        }
        sum(text, upTo(12) == 0 ? 8 : 3);
        return spoil(text.append(gap()), 153);
    }

    private void sum(StringBuilder text, int deep) {
        product(text, deep);
        for (int i = upTo(4) - 2; i > 0 && text.length() < 110; i--) {
            text.append(gap()).append(upTo(1) == 0 ? '+' : '-').append(gap());
            product(text, deep);
        }
    }

    private void product(StringBuilder text, int deep) {
        unit(text, deep);
        for (int i = upTo(4) - 3; i > 0 && text.length() < 110; i--) {
            text.append(gap()).append(upTo(1) == 0 ? '*' : '/').append(gap());
            unit(text, deep);
        }
    }

    private void unit(StringBuilder text, int deep) {
        String[] words = {"size", "age", "temper", "heat", "passed", "told", "day", "held"};
        int chance = upTo(deep > 4 ? 11 : 9);
        if (deep > 0 && chance == 8 || chance == 10) {
            text.append(gap()).append('(');
            sum(text, deep - 1);
            text.append(gap()).append(')');
        } else if (deep > 0 && chance == 9 || chance == 11) {
            text.append(gap()).append(upTo(1) == 0 ? "least" : "most").append(gap()).append('[');
            sum(text, deep - 1);
            text.append(gap()).append(',');
            sum(text, deep - 1);
            text.append(gap()).append(']');
        } else if (chance < 3) {
            text.append(gap()).append(number(0, upTo(1) == 0 ? 9 : 99));
        } else {
            text.append(gap()).append(words[upTo(7)]);
        }
    }

    /** Lines about these worths, some of them off. */
    public String book(int people, long[] worths) {
        StringBuilder text = new StringBuilder();
        int many = upTo(20) == 0 ? 9 : upTo(Math.min(8, people + 1));
        for (int i = 0; i < many && people > 0; i++) {
            int p = upTo(40) == 0 ? people : upTo(people - 1);
            long value = (p < worths.length ? worths[p] : 0) + (upTo(9) == 0 ? upTo(6) - 3 : 0);
            clause(text, p + blanks() + (value < 0 ? "-" + gap() : "") + Math.abs(value));
        }
        return spoil(text, 153);
    }

    private String spoil(StringBuilder text, int most) {
        if (upTo(9) == 0 && text.length() > 0) {
            int at = upTo(text.length() - 1);
            switch (upTo(4)) {
                case 0:
                    text.deleteCharAt(at);
                    break;
                case 1:
                    text.insert(at, " ;0193-+*/()[],abelmost\u00ff\u0000".charAt(upTo(23)));
                    break;
                case 2:
                    text.setCharAt(at, (char) upTo(255));
                    break;
                case 3:
                    text.setLength(at);
                    break;
                default:
                    text.append(gap()).append(";");
                    break;
            }
        }
        if (text.length() > most) {
            text.setLength(most);
        }
        return text.toString();
    }
}
