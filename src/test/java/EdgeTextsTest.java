import support.Check;

/** The edges of texts: what may stand on the tape, how long it may be, how many of each, and every FAULT's place. */
public final class EdgeTextsTest extends Play {
    private static final String[] TEXTS = {"town", "law", "deeds", "book"};

    public static void main(String[] args) {
        tape();
        tapeIsFull();
        lengths();
        exactLengths();
        emptyTexts();
        theRestIsDropped();
        townNumbers();
        townFaults();
        townTooMany();
        townStartsAnew();
        lawNumbers();
        lawFaults();
        lawNested();
        lawWraps();
        lawOrder();
        deedNumbers();
        deedFaults();
        deedTooMany();
        twentyRows();
        bookNumbers();
        bookFaults();
        bookTooMany();
        blanks();
        firstFromTheLeft();
        ofOnePlaceTheLeast();
        placeOfTheLatest();
        Check.end();
    }

    /** A town with a law, a book, a row of deeds, an image, and a deed that was refused. */
    private static SorryPurses lively() {
        SorryPurses x = town(STREET);
        law(x, "size/2+heat-told*3");
        book(x, "0 -22;1 -10;");
        deeds(x, "day 2;tell 0;sorry 2;");
        x.image();
        return x;
    }

    private static void faulty(String what, int kind, int place, String text) {
        SorryPurses x = lively();
        String before = all(x);
        Check.due(what + " '" + text + "'", kind - 10, read(x, what, put(x, text)));
        Check.due("fault of " + what + " '" + text + "'", place, x.fault());
        Check.due("tape behind " + what + " '" + text + "'", 0, x.count(1));
        Check.due("all stays behind " + what + " '" + text + "'", before, all(x));
    }

    private static void fine(String what, int answer, String text) {
        SorryPurses x = lively();
        Check.due(what + " '" + text + "'", answer, read(x, what, put(x, text)));
        Check.due("no fault of " + what + " '" + text + "'", -1, x.fault());
        Check.due("tape behind " + what + " '" + text + "'", 0, x.count(1));
    }

    private static void tape() {
        Check.about("twenty bytes come on the tape, of each number the highest first");
        SorryPurses x = new SorryPurses();
        Check.due("feed", 20, x.feed(0x39392d31, 0x2d312d31, 0x2d312d31, 0x2d312d31, 0x2d312d33));
        Check.due("law", 1, x.law(20));
        Check.due("99 less eight ones, less 3", 88, x.would(0, 0, 0, 0, 0));
        x.feed(0x39390000, 0, 0, 0, 0);
        Check.due("a byte 0 can't stand", -9, x.law(3));
        Check.due("its place", 2, x.fault());
        x.feed(0x39202020, 0x202020ff, 0, 0, 0);
        Check.due("a byte 255 can't stand", -9, x.law(8));
        Check.due("its place", 7, x.fault());
        x.feed(0x39202020, 0x2020a000, 0, 0, 0);
        Check.due("a byte 160 is no blank", -9, x.law(7));
        Check.due("its place", 6, x.fault());
        x.feed(0x80000000, -1, -1, -1, -1);
        Check.due("a byte 128 can't stand", -9, x.town(20));
        Check.due("its place", 0, x.fault());
    }

    private static void tapeIsFull() {
        Check.about("NONE, doing nothing, if there would be more than 600");
        SorryPurses x = new SorryPurses();
        for (int i = 1; i < 30; i++) {
            Check.due("feed " + i, 20 * i, x.feed(0x20202020, 0x20202020, 0x20202020, 0x20202020, 0x20202020));
        }
        Check.due("the last twenty bytes fit", 600, x.feed(0x70657273, 0x6f6e2037, 0x20202020, 0x20202020, 0x2020203b));
        String before = all(x);
        for (int i = 0; i < 3; i++) {
            Check.due("none beyond", -1, x.feed(0x30303030, 0x30303030, 0x30303030, 0x30303030, 0x30303030));
            Check.due("bytes", 600, x.count(1));
        }
        Check.due("all stays", before, all(x));
        Check.due("no call was refused", 0, x.status(0) + x.status(1) + x.status(2));
        Check.refused("more than there are", BAD, () -> x.town(601));
        Check.due("the town of 600 bytes", 0, x.town(600));
        Check.due("the first bytes were not written over", -1, x.fault());
        Check.due("its last clause", 7, x.person(0, 0));
        Check.due("it is empty then", 20, x.feed(1, 2, 3, 4, 5));
    }

    private static void lengths() {
        Check.about("n is not 0 to the tape's bytes, or beyond the most");
        int[] most = {600, 150, 200, 150};
        for (int i = 0; i < 4; i++) {
            String what = TEXTS[i];
            for (int n : new int[] {-1, 21, most[i] + 1, Integer.MIN_VALUE, Integer.MAX_VALUE}) {
                SorryPurses x = lively();
                put(x, "day 1;              ");
                refuses(x, BAD, what + "(" + n + ") of 20", () -> read(x, what, n));
                Check.due("the tape's bytes stay as they are", 1, x.deeds(20));
            }
            SorryPurses none = lively();
            refuses(none, BAD, what + "(1) of none", () -> read(none, what, 1));
        }
        for (int i = 1; i < 4; i++) {
            String what = TEXTS[i];
            int n = most[i];
            SorryPurses x = lively();
            put(x, many(" ", 220));
            refuses(x, BAD, what + "(" + (n + 1) + ") of 220", () -> read(x, what, n + 1));
            Check.due(what + "(" + n + ") of 220", i == 1 ? -9 : 0, read(x, what, n));
        }
    }

    /** The last byte counts as any other. */
    private static void exactLengths() {
        Check.about("up to 600, 150, 200 and 150 bytes");
        SorryPurses x = town(many(" ", 12) + "person 1;person 2;" + many(" ", 561) + "person 3;");
        Check.due("a town of 600", 3, x.told(0));
        String ones = "10" + many("+1", 74);
        Check.due("150 bytes", 150, ones.length());
        Check.due("a law of 150", 1, law(x, ones));
        Check.due("all of it counts", 84, x.would(0, 0, 0, 0, 0));
        Check.due("deeds of 200", 30, deeds(x, many("day 1;", 29) + many(" ", 20) + "day 2;"));
        Check.due("all of it counts", 31, x.told(3));
        Check.due("a book of 150", 2, book(x, "0 1;" + many(" ", 140) + "2 999;"));
        fineTown600();
        faulty("law", 1, 149, "10" + many("+1", 73) + "+");
        faulty("law", 1, 150, "10" + many("+1", 73) + " +");
        faulty("deeds", 1, 200, many("day 1;", 29) + many(" ", 21) + "day 2");
        faulty("book", 1, 150, "0 1;" + many(" ", 141) + "2 999");
    }

    private static void fineTown600() {
        SorryPurses x = lively();
        String text = many("person 9;", 2) + many("wrong 0 1 999 ;", 24);
        String padded = text + many(" ", 600 - text.length());
        Check.due("a town of 600", 24, x.town(put(x, padded)));
        Check.due("a fault at the end of 600", -9, x.town(put(x, padded.substring(0, 599) + "x")));
        Check.due("its place", 599, x.fault());
        Check.due("a town that ends too early", -9, x.town(put(x, padded.substring(0, 594) + "bite 9")));
        Check.due("at the length", 600, x.fault());
    }

    private static void emptyTexts() {
        Check.about("texts without anything, or of blanks alone");
        for (String blank : new String[] {"", " ", "     "}) {
            fine("town", 0, blank);
            fine("deeds", 0, blank);
            fine("book", 0, blank);
            faulty("law", 1, blank.length(), blank);
        }
        SorryPurses x = lively();
        Check.due("an empty row is a row", 0, x.deeds(0));
        Check.due("rows", 2, x.count(2));
        Check.due("none was refused", 0, x.told(7));
        Check.due("it can be undone", 1, x.undo());
        Check.due("a book without lines", 0, x.book(0));
        Check.due("no lines then", 0, x.told(6));
    }

    private static void theRestIsDropped() {
        Check.about("the first n bytes; the tape is empty then");
        SorryPurses x = new SorryPurses();
        put(x, "person 1;person 2;person 3;");
        Check.due("town", 0, x.town(18));
        Check.due("two of three", 2, x.told(0));
        Check.due("empty", 0, x.count(1));
        put(x, "9+9+9+9");
        Check.due("law", 1, x.law(3));
        Check.due("9+9", 18, x.would(0, 0, 0, 0, 0));
        Check.due("empty", 0, x.count(1));
        put(x, "day 1;day 2;");
        Check.due("deeds", 1, x.deeds(6));
        Check.due("day", 1, x.told(3));
        Check.due("empty", 0, x.count(1));
        put(x, "0 0;1 0;");
        Check.due("book", 1, x.book(4));
        Check.due("empty", 0, x.count(1));
        put(x, "12");
        Check.due("a number is cut at n", 1, x.law(1));
        Check.due("1", 1, x.would(0, 0, 0, 0, 0));
        put(x, "day 10;");
        Check.due("the end comes at n", -9, x.deeds(6));
        Check.due("at the length", 6, x.fault());
    }

    private static void townNumbers() {
        Check.about("numbers of a town");
        SorryPurses x = town("person 0;person 9;wrong 0 1 1;wrong 1 0 999;false 0 1 1;false 1 0 999;interest 0;bite 0;");
        Check.due("temper 0", 0, x.person(0, 0));
        Check.due("temper 9", 9, x.person(1, 0));
        Check.due("size 1", 1, x.claim(0, 2));
        Check.due("size 999", 999, x.claim(1, 2));
        Check.due("size 1", 1, x.claim(2, 2));
        Check.due("size 999", 999, x.claim(3, 2));
        Check.due("on", 1, x.claim(1, 0));
        Check.due("held by", 0, x.claim(1, 1));
        Check.due("interest 0", 0, x.told(4));
        Check.due("bite 0", 0, x.told(5));
        SorryPurses y = town("interest 50;bite 100;");
        Check.due("interest 50", 50, y.told(4));
        Check.due("bite 100", 100, y.told(5));
        SorryPurses z = town("interest 7;bite 8;interest 9;person 1;bite 6;");
        Check.due("the last interest counts", 9, z.told(4));
        Check.due("the last bite counts", 6, z.told(5));
        SorryPurses w = town("person 1;");
        Check.due("10 without", 10, w.told(4));
        Check.due("30 without", 30, w.told(5));
        SorryPurses eight = town(many("person 1;", 8) + "wrong 0 7 1;false 7 0 1;");
        Check.due("the eighth", 7, eight.claim(0, 1));
        Check.due("the eighth", 7, eight.claim(1, 0));
        faulty("town", 2, 7, "person 10;");
        faulty("town", 2, 9, "interest 51;");
        faulty("town", 2, 5, "bite 101;");
        for (String claim : new String[] {"wrong", "false"}) {
            faulty("town", 2, 6, claim + " 0 1 5;");
            faulty("town", 2, 15, "person 1;" + claim + " 1 0 5;");
            faulty("town", 2, 17, "person 1;" + claim + " 0 1 5;person 1;");
            faulty("town", 2, 24, "person 1;person 1;" + claim + " 2 0 5;");
            faulty("town", 2, 26, "person 1;person 1;" + claim + " 0 2 5;");
            faulty("town", 2, 26, "person 1;person 1;" + claim + " 0 0 5;");
            faulty("town", 2, 26, "person 1;person 1;" + claim + " 1 1 5;");
            faulty("town", 2, 28, "person 1;person 1;" + claim + " 0 1 0;");
            faulty("town", 2, 28, "person 1;person 1;" + claim + " 0 1 1000;");
        }
        faulty("town", 2, 87 - 7, many("person 1;", 8) + "wrong 0 8 1;");
    }

    private static void townFaults() {
        Check.about("what can't stand in a town");
        for (String bad : new String[] {"x", "persons 1;", "perso 1;", "PERSON 1;", "Person 1;", "1;", ";", "-", "\t",
            "\u00e9", "wrongly 0 1;", "law;", "{", "\"person\" 1;"}) {
            faulty("town", 1, 0, bad);
            faulty("town", 1, 9, "person 1;" + bad);
        }
        faulty("town", 1, 0, "per son 1;");
        faulty("town", 1, 6, "personA 1;");
        String[] clauses = {"person 1;", "interest 1;", "bite 1;", "wrong 0 1 5;", "false 0 1 5;"};
        for (String clause : clauses) {
            endsTooEarly("town", "person 1;person 2;", clause);
        }
        faulty("town", 1, 9, "person 1 2;");
        faulty("town", 1, 8, "person 1,");
        faulty("town", 1, 8, "person 1.5;");
        faulty("town", 1, 7, "person +1;");
        faulty("town", 1, 7, "person -1;");
        faulty("town", 1, 8, "person 1x;");
        faulty("town", 1, 7, "person \u00ff1;");
        faulty("town", 1, 25, "person 1;person 2;wrong 0,1 5;");
        faulty("town", 1, 30, "person 1;person 2;wrong 0 1 5 5;");
        faulty("town", 1, 9, "interest -1;");
        faulty("town", 1, 5, "bite -1;");
    }

    /** Cut at each place, what is left of a clause ends too early; and a sign that is none such can't stand there. */
    private static void endsTooEarly(String what, String ahead, String clause) {
        for (int cut = 1; cut < clause.length(); cut++) {
            String text = ahead + clause.substring(0, cut);
            boolean inWord = Character.isLetter(clause.charAt(cut)) && Character.isLetter(clause.charAt(cut - 1));
            faulty(what, 1, inWord ? ahead.length() : text.length(), text);
            faulty(what, 1, inWord ? ahead.length() : text.length(), text + "!");
            faulty(what, 1, inWord ? ahead.length() : text.length() + 2, text + "  ");
        }
    }

    private static void townTooMany() {
        Check.about("a clause, person, claim too many: at its word");
        Check.due("8 people", 8, town(many("person 1;", 8)).told(0));
        faulty("town", 3, 72, many("person 1;", 9));
        faulty("town", 3, 74, many("person 1;", 8) + "  person 10;");
        String two = "person 1;person 1;";
        Check.due("24 claims", 24, town(two + many("wrong 0 1 5;false 1 0 5;", 12)).told(1));
        faulty("town", 3, 18 + 288, two + many("wrong 0 1 5;", 25));
        faulty("town", 3, 18 + 288, two + many("wrong 0 1 5;", 24) + "false 0 1 5;");
        faulty("town", 3, 18 + 288, two + many("false 0 1 5;", 25));
        faulty("town", 3, 19 + 288, two + many("false 0 1 5;", 24) + " wrong 7 7 0;");
        Check.due("60 clauses", 7, town(many("bite 1;", 59) + "bite 7;").told(5));
        for (String more : new String[] {"bite 1;", "interest 1;", "person 1;", "wrong 0 1 5;", "false 0 1 5;"}) {
            faulty("town", 3, 420, many("bite 1;", 60) + more);
            faulty("town", 3, 422, many("bite 1;", 60) + "  " + more);
        }
        faulty("town", 1, 420, many("bite 1;", 60) + ";");
        faulty("town", 1, 420, many("bite 1;", 60) + "bites 1;");
        SorryPurses x = town(many("bite 1;", 60) + "   ");
        Check.due("blanks behind 60", 1, x.told(5));
    }

    private static void townStartsAnew() {
        Check.about("day 0; no law, book, images, nothing to undo");
        SorryPurses x = lively();
        deeds(x, "pass 0 2;day 3;tell 0;forgive 0;sorry 0;");
        Check.due("one was refused", 1, x.told(7));
        Check.due("town", 1, x.town(put(x, "person 6;person 5;false 1 0 8;")));
        long[] want = {2, 1, 1, 0, 10, 30, 0, 0};
        for (int what = 0; what < 8; what++) {
            int w = what;
            Check.due("told " + w, want[w], () -> x.told(w));
        }
        Check.due("no law", 50 + 25 - 2, x.would(9, 9, 5, 9, 2));
        Check.due("no images", 0, x.count(0));
        Check.due("none to restore", -1, x.restore());
        Check.due("no rows", 0, x.count(2));
        Check.due("nothing to undo", -1, x.undo());
        Check.due("no book: none is false", 0, x.lies(0));
        long[] sums = {8, 8, 0, 0, 0};
        for (int what = 0; what < 5; what++) {
            Check.due("sums " + what, sums[what], x.sums(what));
        }
        long[] claim = {1, 0, 8, 0, 0, 0, 0, 0};
        for (int what = 0; what < 8; what++) {
            Check.due("claim 0 " + what, claim[what], x.claim(0, what));
        }
        Check.due("it can be told on day 0", 1, deeds(x, "tell 0;"));
        for (String law : new String[] {"7", "1+1+1+1+1+1+1", "least[8,9]-(1+2)*3-4-5"}) {
            law(x, law);
            Check.due("town", 0, x.town(put(x, "person 2;")));
            Check.due("no law behind " + law, 50 + 15 - 2, x.would(0, 0, 3, 0, 2));
        }
        x.bite(99);
        Check.due("the same again", 0, x.town(0));
        Check.due("the bite without", 30, x.told(5));
        Check.due("nobody", 0, x.told(0));
    }

    private static void meant(int want, String text) {
        SorryPurses x = new SorryPurses();
        Check.due("law " + text, 1, law(x, text));
        Check.due("meant by " + text, want, x.would(400, 30, 4, 7, 6));
    }

    private static void lawNumbers() {
        Check.about("numbers and words of a law");
        meant(0, "0");
        meant(99, "99");
        meant(99, "100");
        meant(99, "999");
        meant(98, "98");
        meant(0, "0-1");
        meant(1, "999-998");
        meant(7, "000000000000000000000007");
        meant(99, "size");
        meant(80, "size/5");
        meant(30, "age");
        meant(4, "temper");
        meant(7, "heat");
        meant(6, "told");
        meant(0, "passed");
        meant(0, "day");
        meant(0, "held");
        meant(5, "least[5,6]");
        meant(5, "least[6,5]");
        meant(6, "most[5,6]");
        meant(6, "most[6,5]");
        meant(5, "least[5,5]");
        meant(2, "3+least[0-1,1]");
        meant(2, "3+most[0-1,0-2]");
        faulty("law", 2, 0, "1000");
        faulty("law", 2, 2, "1+1000");
        faulty("law", 2, 1, "(00001000)");
        faulty("law", 2, 0, "4294967297");
        faulty("law", 2, 0, "18446744073709551617");
    }

    private static void lawFaults() {
        Check.about("what can't stand in a law");
        for (String bad : new String[] {"-1", "+1", "*1", "/1", ")", "]", "[1,2]", ",", ";", "sizes", "Size", "SIZE", "x",
            "=", "\t1", "\u00b2"}) {
            faulty("law", 1, 0, bad);
            faulty("law", 1, 1, "(" + bad);
            faulty("law", 1, 2, "1*" + bad);
            faulty("law", 1, 2, "1-" + bad);
            faulty("law", 1, 6, "least[" + bad);
            faulty("law", 1, 8, "least[1," + bad);
        }
        for (String more : new String[] {"2", "size", "(2)", "least[1,2]", ")", "]", ",", ";", "%", "!"}) {
            faulty("law", 1, 2, "1 " + more);
            faulty("law", 1, 4, "(1) " + more);
        }
        for (String law : new String[] {"most[1,2]", "least[1,2]", "(1)", "1+2", "1-2", "1*2", "1/2", "size+age"}) {
            endsLawTooEarly(law);
        }
        faulty("law", 1, 4, "most(1,2)");
        faulty("law", 1, 6, "most[1]");
        faulty("law", 1, 8, "most[1,2)");
        faulty("law", 1, 8, "most[1,2,3]");
        faulty("law", 1, 5, "most[,2]");
        faulty("law", 1, 6, "most[1;2]");
        faulty("law", 1, 2, "(1]");
        faulty("law", 1, 1, "()");
        faulty("law", 1, 4, "size2");
        faulty("law", 1, 1, "2size");
        faulty("law", 1, 5, "size size");
        faulty("law", 1, 0, "sizeage");
        faulty("law", 1, 2, "1 000");
    }

    private static void endsLawTooEarly(String law) {
        for (int cut = 1; cut < law.length(); cut++) {
            String text = law.substring(0, cut);
            boolean inWord = Character.isLetter(law.charAt(cut)) && Character.isLetter(law.charAt(cut - 1));
            int word = cut;
            while (word > 0 && Character.isLetter(law.charAt(word - 1))) {
                word--;
            }
            if (inWord || !text.matches("1|size")) {
                faulty("law", 1, inWord ? word : cut, text);
                faulty("law", 1, inWord ? word : cut + 1, text + " ");
            }
        }
    }

    private static void lawNested() {
        Check.about("a 7th of ( least most that is open at one time");
        String[] opens = {"(", "least[", "most["};
        String[] closes = {")", ",1]", ",1]"};
        for (int a = 0; a < 3; a++) {
            for (int b = 0; b < 3; b++) {
                String six = many(opens[a], 6) + "1" + many(closes[a], 6);
                meant(1, six);
                faulty("law", 3, 6 * opens[a].length(), many(opens[a], 6) + opens[b] + "1" + closes[b]
                        + many(closes[a], 6));
                faulty("law", 3, 6 * opens[a].length() + 2, many(opens[a], 6) + "  " + opens[b]);
            }
        }
        meant(1, "((((((1))))))*((((((1))))))");
        meant(6, "((((((1+1)+1)+1)+1)+1)+1)-(1)");
        meant(3, "least[(((((3))))),(((((4)))))]");
        meant(1, "(((least[1,((2))])))");
        faulty("law", 3, 13, "(((least[1,(((2)))])))");
        faulty("law", 3, 20, "((least[1,least[1,(((2)))]]))");
        faulty("law", 3, 6, "((((((least");
        faulty("law", 3, 6, "((((((most(");
        faulty("law", 1, 6, "((((((mosts");
        faulty("law", 1, 6, "((((((");
        faulty("law", 2, 6, "((((((1000");
        faulty("law", 3, 20, "((((((1))))))*(((((((1)))))))");
    }

    private static void lawWraps() {
        Check.about("whole numbers of 32 bits that wrap; / cuts, by 0 it is 0");
        String least = "512*512*512*16";
        meant(0, least);
        meant(99, least + "-1");
        meant(0, least + "-1+1");
        meant(0, "0-" + least);
        meant(99, "0-" + least + "-1");
        meant(7, "256*256*256*256+7");
        meant(5, "0-(0-" + "5)");
        meant(0, "(" + least + "-1)*2");
        meant(99, "(" + least + "-1)*3");
        meant(0, least + "/(0-1)");
        meant(99, least + "/(0-1)-1");
        meant(64, least + "/(0-512)/512/128");
        meant(3, "7/2");
        meant(7, "10+(0-7)/2");
        meant(7, "10+7/(0-2)");
        meant(13, "10+(0-7)/(0-2)");
        meant(10, "10+7/0");
        meant(10, "10+0/0");
        meant(10, "10+7/(5-5)");
        meant(10, "10+7/passed");
        meant(10, "10+1/2");
        meant(10, "10+(0-1)/2");
        meant(0, "7/0*9");
    }

    private static void lawOrder() {
        Check.about("E: T { + or - T }; T: U { * or / U }, from the left");
        meant(5, "10-3-2");
        meant(9, "10-(3-2)");
        meant(11, "10-3+4");
        meant(2, "20/5/2");
        meant(10, "20/(5/2)");
        meant(8, "20/5*2");
        meant(14, "2+3*4");
        meant(20, "(2+3)*4");
        meant(4, "20-4*4");
        meant(3, "1+20/8");
        meant(12, "2*3+2*3");
        meant(6, "7*6/7");
        meant(0, "6/7*7");
        meant(35, "most[2+3*4,least[40,50-5*3]]");
        meant(63, many("1+2*least[99,", 6) + "0" + many("]", 6));
        meant(63, many("1+2*most[0,", 6) + "0" + many("]", 6));
        meant(63, many("1+2*(", 6) + "0" + many(")", 6));
    }

    private static void deedNumbers() {
        Check.about("numbers of deeds");
        fine("deeds", 2, "day 1;day 30;");
        faulty("deeds", 2, 4, "day 0;");
        faulty("deeds", 2, 4, "day 31;");
        for (String pair : new String[] {"slap", "pay"}) {
            int at = pair.length() + 1;
            faulty("deeds", 2, at, pair + " 3 0 1;");
            faulty("deeds", 2, at + 2, pair + " 0 3 1;");
            faulty("deeds", 2, at + 2, pair + " 0 0 1;");
            faulty("deeds", 2, at + 2, pair + " 2 2 1;");
            faulty("deeds", 2, at + 4, pair + " 0 1 0;");
            faulty("deeds", 2, at + 4, pair + " 0 1 1000;");
        }
        fine("deeds", 2, "slap 2 0 1;slap 0 2 999;");
        fine("deeds", 0, "pay 2 0 1;pay 0 2 999;");
        for (String one : new String[] {"tell", "sorry", "forgive"}) {
            fine("deeds", 0, one + " 39;");
            faulty("deeds", 2, one.length() + 1, one + " 40;");
        }
        fine("deeds", 0, "pass 39 2;wrongly 39 2;split 39 1;split 39 999;join 39 38;join 0 39;");
        faulty("deeds", 2, 5, "pass 40 0;");
        faulty("deeds", 2, 7, "pass 0 3;");
        faulty("deeds", 2, 8, "wrongly 40 0;");
        faulty("deeds", 2, 10, "wrongly 0 3;");
        faulty("deeds", 2, 6, "split 40 1;");
        faulty("deeds", 2, 8, "split 0 0;");
        faulty("deeds", 2, 8, "split 0 1000;");
        faulty("deeds", 2, 5, "join 40 0;");
        faulty("deeds", 2, 7, "join 0 40;");
        faulty("deeds", 2, 7, "join 0 0;");
        faulty("deeds", 2, 8, "join 39 39;");
        faulty("deeds", 2, 5, "join 40 40;");
    }

    private static void deedFaults() {
        Check.about("what can't stand in deeds");
        for (String bad : new String[] {"x", "days 1;", "da 1;", "Day 1;", "1;", ";", "wrong 0 1 5;", "person 1;", "\t",
            "sorrys 1;", "law;"}) {
            faulty("deeds", 1, 0, bad);
            faulty("deeds", 1, 6, "day 1;" + bad);
        }
        for (String deed : new String[] {"day 1;", "slap 0 1 1;", "pass 0 1;", "split 0 1;", "join 0 1;", "tell 0;",
            "sorry 0;", "wrongly 0 1;", "forgive 0;", "pay 0 1 1;"}) {
            endsTooEarly("deeds", "day 1; ", deed);
            faulty("deeds", 1, 6 + deed.length(), "day 1;" + deed.substring(0, deed.length() - 1) + " 1;");
        }
        faulty("deeds", 1, 4, "day -1;");
        faulty("deeds", 1, 5, "tell k;");
        faulty("deeds", 1, 6, "join 0,1;");
    }

    private static void deedTooMany() {
        Check.about("30 deeds at most, one more at its word");
        fine("deeds", 30, many("day 1;", 30));
        fine("deeds", 30, many("day 1;", 30) + many(" ", 20));
        faulty("deeds", 3, 180, many("day 1;", 31));
        faulty("deeds", 3, 182, many("day 1;", 30) + "  tell 0;");
        faulty("deeds", 3, 180, many("day 1;", 30) + "pay 9 9 0;");
        faulty("deeds", 1, 180, many("day 1;", 30) + "pays 1 2 3;");
        faulty("deeds", 1, 180, many("day 1;", 30) + ";");
        faulty("deeds", 2, 178, many("day 1;", 29) + "day 0;day 1;");
    }

    private static void twentyRows() {
        Check.about("-20: 20 rows of deeds are there that were not undone");
        SorryPurses x = town(STREET);
        for (int i = 1; i <= 20; i++) {
            Check.due("row " + i, 1, deeds(x, i == 20 ? "day 1;tell 39;" : "day 1;"));
            Check.due("rows", i, x.count(2));
        }
        law(x, "x");
        Check.due("a fault of another text", 0, x.fault());
        String before = all(x);
        put(x, "day 1;");
        Check.refused("behind the exception", BAD, () -> x.deeds(21));
        Check.refused("behind the exception", BAD, () -> x.deeds(-1));
        Check.due("the tape stays", 20, x.count(1));
        Check.due("the fault stays", 0, x.fault());
        Check.due("ahead of the fault", -20, x.deeds(2));
        Check.due("there is no fault", -1, x.fault());
        Check.due("the tape is empty", 0, x.count(1));
        put(x, "day 1;");
        Check.due("a row that is as it should be", -20, x.deeds(6));
        Check.due("an empty row", -20, x.deeds(0));
        Check.due("nothing is read: all stays", before, all(x));
        put(x, many(" ", 220));
        Check.refused("beyond 200", BAD, () -> x.deeds(201));
        Check.due("the tape stays", 220, x.count(1));
        Check.due("it is empty", 0, x.book(0));
        Check.due("one is undone", 19, x.undo());
        Check.due("one more fits", 1, deeds(x, "day 1;"));
        Check.due("no more", -20, x.deeds(0));
    }

    private static void bookNumbers() {
        Check.about("numbers of a book");
        fine("book", 4, "0 0;1 9999;2 -9999;2 -0;");
        fine("book", 1, "2 - 0009999;");
        faulty("book", 2, 0, "3 1;");
        faulty("book", 2, 2, "0 10000;");
        faulty("book", 2, 3, "0 -10000;");
        faulty("book", 2, 2, "0 99999999999;");
        faulty("book", 2, 4, "0 1;3 1;");
        SorryPurses none = new SorryPurses();
        Check.due("there are no people", -8, book(none, "0 1;"));
        Check.due("its place", 0, none.fault());
    }

    private static void bookFaults() {
        Check.about("what can't stand in a book");
        for (String bad : new String[] {"x", "-1 1;", ";", "p 1;", "\t", "person 1;"}) {
            faulty("book", 1, 0, bad);
            faulty("book", 1, 4, "0 1;" + bad);
        }
        endsTooEarly("book", "0 1; ", "1 - 5;");
        endsTooEarly("book", "0 1; ", "1 5;");
        faulty("book", 1, 3, "0 -- 1;");
        faulty("book", 1, 4, "0 - - 1;");
        faulty("book", 1, 2, "0 +1;");
        faulty("book", 1, 4, "0 1 2;");
        faulty("book", 1, 3, "0 1-2;");
        faulty("book", 1, 3, "0 1,");
    }

    private static void bookTooMany() {
        Check.about("8 lines at most, one more at its P");
        fine("book", 8, many("2 -9999 ;", 8));
        fine("book", 8, many("0 1;", 8) + "   ");
        faulty("book", 3, 32, many("0 1;", 9));
        faulty("book", 3, 34, many("0 1;", 8) + "  2 x;");
        faulty("book", 3, 32, many("0 1;", 8) + "0 10000;");
        faulty("book", 2, 30, many("0 1;", 7) + "0 10000;0 1;");
        faulty("book", 1, 32, many("0 1;", 8) + "-");
    }

    private static void blanks() {
        Check.about("blanks may stand ahead of all these, and at the end");
        SorryPurses x = new SorryPurses();
        Check.due("town", 1, x.town(put(x, "  person  3  ;  person5 ; wrong  0   1    17  ;  interest7;bite  9 ;  ")));
        Check.due("size", 17, x.claim(0, 2));
        Check.due("none, where none is needed", 1, x.town(put(x, "person3;person5;wrong0 1 17;interest7;bite9;")));
        Check.due("interest", 7, x.told(4));
        Check.due("law", 1, law(x, "  most  [  ( 3 + 4 )  *  2  ,  size / 2  ]  -  1  "));
        Check.due("13", 13, x.would(4, 0, 0, 0, 0));
        Check.due("law", 1, law(x, "most[(3+4)*2,size/2]-1"));
        Check.due("13", 13, x.would(4, 0, 0, 0, 0));
        Check.due("deeds", 2, deeds(x, "  day  2  ;  slap  0  1  5  ;  "));
        Check.due("deeds", 2, deeds(x, "day2;slap0 1 5;"));
        Check.due("book", 2, book(x, "  0  5  ;  1  -  7  ;  "));
        Check.due("book", 2, book(x, "0 5;1-7;"));
        faulty("town", 1, 6, "person\t3;");
        faulty("law", 1, 1, "1\n");
        faulty("deeds", 1, 3, "day\u00002;");
        faulty("book", 1, 1, "0\r5;");
    }

    private static void firstFromTheLeft() {
        Check.about("faults, the first from the left");
        faulty("town", 2, 7, "person 10;person;");
        faulty("town", 1, 6, "person;person 10;");
        faulty("town", 2, 7, "person 10");
        faulty("town", 2, 6, "wrong 0 0 0;");
        faulty("town", 2, 26, "person 1;person 1;wrong 1 1 0;");
        faulty("town", 2, 77, many("person 1;", 7) + "bite 0;person 10;" + many("person 1;", 2));
        faulty("town", 3, 72, many("person 1;", 9) + "person 10;");
        faulty("law", 2, 0, "1000+");
        faulty("law", 1, 2, "1+*1000");
        faulty("law", 2, 6, "((((((1000+(1))))))");
        faulty("law", 3, 6, "(((((((1000");
        faulty("deeds", 2, 4, "day 0");
        faulty("deeds", 2, 7, "slap 1 1 0;");
        faulty("deeds", 2, 5, "join 99 99;");
        faulty("book", 2, 0, "9 10000;");
        faulty("book", 1, 2, "0 x;9 1;");
    }

    private static void ofOnePlaceTheLeast() {
        Check.about("faults of one place, the least");
        faulty("book", 2, 32, many("0 1;", 8) + "3 1;");
        faulty("book", 1, 32, many("0 1;", 8) + "x 1;");
        faulty("town", 1, 420, many("bite 1;", 60) + "x");
        faulty("town", 1, 72, many("person 1;", 8) + "persons 1;");
        faulty("deeds", 1, 180, many("day 1;", 30) + "x");
        faulty("law", 1, 6, "((((((x");
        faulty("law", 1, 6, "((((((lea");
    }

    private static void placeOfTheLatest() {
        Check.about("the place of the fault of the latest text; NONE without");
        SorryPurses x = new SorryPurses();
        Check.due("of none", -1, x.fault());
        int place = 1;
        for (String what : TEXTS) {
            String text = many(" ", place) + "!";
            Check.due(what, -9, read(x, what, put(x, text)));
            Check.due("its place", place, x.fault());
            Check.due("it stays", place, x.fault());
            Check.refused("no text", BAD, () -> read(x, what, 1));
            Check.due("it stays behind what is no text", place, x.fault());
            place++;
        }
        x.image();
        x.restore();
        deeds(x, "!");
        x.undo();
        Check.due("it stays", 0, x.fault());
        for (String what : TEXTS) {
            law(x, "!");
            Check.due("a fault", 0, x.fault());
            read(x, what, put(x, what.equals("law") ? "1" : ""));
            Check.due("none behind " + what, -1, x.fault());
        }
    }
}
