import support.Check;

/** The edges of what is asked: NONE, nothing, alike ones, the least and the most; nothing stays changed. */
public final class EdgeAsksTest extends Play {
    public static void main(String[] args) {
        newObject();
        toldOfAll();
        claimsThatWent();
        personWithout();
        worths();
        betweens();
        meantAtTheEdges();
        meantOfWhatWent();
        wouldAtTheEdges();
        open();
        paysAtTheEdges();
        covers();
        coversFar();
        sumsOfFar();
        ways();
        evens();
        groups();
        groupsOfAlikeWays();
        oneDays();
        oneDayNow();
        oneDayOfAlikeWays();
        lies();
        liesSixteen();
        liesOfAlikeOnes();
        rights();
        errorsOfABite();
        bests();
        bites();
        swells();
        bursts();
        tills();
        extremes();
        chosen();
        heard();
        payers();
        lacking();
        grown();
        squares();
        aged();
        masters();
        months();
        monthsOfForty();
        saints();
        spans();
        statuses();
        counts();
        nothingStaysChanged();
        calls512();
        Check.end();
    }

    private static void newObject() {
        Check.about("a town without clauses");
        SorryPurses x = new SorryPurses();
        SorryPurses y = town("");
        for (SorryPurses z : new SorryPurses[] {x, y}) {
            long[] told = {0, 0, 0, 0, 10, 30, 0, 0};
            for (int what = 0; what < 8; what++) {
                int w = what;
                Check.due("told " + w, told[w], () -> z.told(w));
            }
            for (int what = 0; what < 5; what++) {
                Check.due("sums " + what, 0, z.sums(what));
            }
            long none = -1;
            Check.due("nobody, none", none, z.extreme(0) & z.extreme(1) & z.chosen(0) & z.chosen(1) & z.group(0));
            Check.due("nothing", 0, z.open() | z.oneDay() | z.even(0) | z.even(1) | z.lies(0) | z.lies(1) | z.right()
                    | z.errors(0, 1) | z.errors(100, 0) | z.best() | z.swell(60) | z.square() | z.aged(0));
            Check.due("nothing to undo, to restore", none, z.undo() & z.restore() & z.fault());
            Check.due("counts", 0, z.count(0) | z.count(1) | z.count(2));
            Check.due("status", 0, z.status(0) | z.status(1) | z.status(2));
            Check.due("an image of nothing", 1, z.image());
            Check.due("month", 0, z.month(1, 30, 16, 16, 0) | z.month(1, 30, 16, 16, 1) | z.month(1, 30, 16, 16, 2));
            Check.due("month", none, z.month(1, 30, 16, 16, 3));
        }
    }

    private static void toldOfAll() {
        Check.about("told");
        SorryPurses x = town(STREET);
        book(x, "0 1;0 2;");
        deeds(x, "day 30;split 0 1;join 0 4;forgive 1;sorry 39;slap 0 1 1;");
        long[] want = {3, 6, 4, 30, 10, 60, 2, 1};
        for (int what = 0; what < 8; what++) {
            int w = what;
            Check.due("told " + w, want[w], () -> x.told(w));
        }
        SorryPurses y = town(many("person 1;", 8) + many("wrong 0 1 1;", 24) + "interest 0;bite 100;");
        deeds(y, many("slap 7 6 1;", 16));
        book(y, many("0 1;", 8));
        long[] most = {8, 40, 40, 0, 0, 100, 8, 0};
        for (int what = 0; what < 8; what++) {
            int w = what;
            Check.due("told " + w, most[w], () -> y.told(w));
        }
    }

    private static void claimsThatWent() {
        Check.about("who held it last, its size, 0 stands, 1 paid, 2 burnt, 3 home, 4 joined");
        SorryPurses x = town(THREE + many("wrong 0 1 20;", 6) + "bite 0;");
        deeds(x, "pass 0 2;sorry 0;pass 1 2;forgive 1;pass 2 0;pass 3 2;pass 4 2;join 4 3;");
        int[][] want = {{0, 2, 20, 0, 1, 0, 1, 1}, {0, 2, 20, 0, 1, 0, 1, 2}, {0, 0, 20, 0, 1, 0, 1, 3},
            {0, 2, 20, 0, 1, 0, 1, 4}, {0, 2, 40, 0, 1, 0, 1, 0}, {0, 1, 20, 0, 0, 0, 1, 0}};
        for (int k = 0; k < 6; k++) {
            for (int what = 0; what < 8; what++) {
                Check.due("claim " + k + ", " + what, want[k][what], x.claim(k, what));
            }
        }
    }

    private static void personWithout() {
        Check.about("of a person who holds nothing, on whom nothing is");
        SorryPurses x = town(STREET);
        deeds(x, "forgive 0;forgive 1;forgive 2;forgive 3;");
        for (int p = 0; p < 3; p++) {
            Check.due("temper", new int[] {4, 7, 0}[p], x.person(p, 0));
            for (int what = 1; what < 5; what++) {
                Check.due("person " + p + ", " + what, 0, x.person(p, what));
            }
            Check.due("worth", 0, x.worth(p, 0));
            Check.due("truly", 0, x.worth(p, 1));
            Check.due("master", -1, x.master(p));
            Check.due("heard", 0, x.heard(p));
            Check.due("says", -1, x.says(p));
            Check.due("ways", 0, x.ways(p));
            Check.due("cover 0", 0, x.cover(p, 0));
            Check.due("cover 1", -1, x.cover(p, 1));
            Check.due("lacking", 9999, x.lacking(p, 9999));
            Check.due("payers", 0, x.payers(p, 1));
            Check.due("pays", 0, x.pays(p, (p + 1) % 3, 1));
        }
        Check.due("all are even", 7, x.square());
        Check.due("no apologies", 0, x.even(0));
    }

    private static void worths() {
        Check.about("worth, and truly by true claims alone");
        SorryPurses x = town(THREE + "wrong 0 1 999;false 0 1 999;false 1 2 1;");
        long[][] want = {{-1998, -999}, {1997, 999}, {1, 0}};
        for (int p = 0; p < 3; p++) {
            Check.due("worth", want[p][0], x.worth(p, 0));
            Check.due("truly", want[p][1], x.worth(p, 1));
        }
        deeds(x, "pass 1 2;");
        Check.due("worth", 998, x.worth(1, 0));
        Check.due("truly", 999, x.worth(1, 1));
        Check.due("worth", 1000, x.worth(2, 0));
        Check.due("truly", 0, x.worth(2, 1));
        deeds(x, "forgive 0;pass 1 0;");
        Check.due("what is gone", 0, x.worth(0, 0));
        Check.due("what is gone", 0, x.worth(0, 1));
    }

    private static void betweens() {
        Check.about("what is on the one and held by the other one");
        SorryPurses x = town(THREE + "wrong 0 1 1;false 0 1 2;wrong 1 0 4;wrong 0 2 8;wrong 2 0 16;");
        int[][] want = {{0, 3, 8}, {4, 0, 0}, {16, 0, 0}};
        for (int p = 0; p < 3; p++) {
            for (int o = 0; o < 3; o++) {
                Check.due(p + " and " + o, want[p][o], x.between(p, o));
            }
        }
        deeds(x, "pass 0 2;forgive 1;pass 2 1;");
        Check.due("it is home", 0, x.between(1, 1));
        Check.due("passed on", 9, x.between(0, 2));
        Check.due("none", 0, x.between(0, 1));
    }

    private static void meantAtTheEdges() {
        Check.about("meant: 0 at least, 99 at most");
        SorryPurses x = town("person 9;person 0;wrong 0 1 999;wrong 1 0 1;");
        Check.due("95 without", 95, x.meant(0));
        Check.due("50 without", 50, x.meant(1));
        int[][] laws = {{0, 0}, {98, 98}, {99, 99}, {100, 99}, {999, 99}};
        for (int[] law : laws) {
            law(x, "" + law[0]);
            Check.due("law " + law[0], law[1], x.meant(0));
        }
        law(x, "0-1");
        Check.due("below 0", 0, x.meant(0));
        law(x, "size*size*size*5");
        Check.due("it wraps: 4,985,014,995 is 690,047,699", 99, x.meant(0));
        law(x, "size*size*size*3");
        Check.due("it wraps: 2,991,008,997 is below 0", 0, x.meant(0));
        Check.due("5", 3, x.meant(1));
        SorryPurses y = town("person 0;person 0;wrong 0 1 1;");
        for (int i = 0; i < 2; i++) {
            deeds(y, many("day 1;tell 0;", 15));
        }
        Check.due("told 30 times", 20, y.meant(0));
        deeds(y, many("day 1;tell 0;", 15));
        Check.due("told 45 times", 5, y.meant(0));
        deeds(y, many("day 1;tell 0;", 15));
        Check.due("told 60 times: 0 at least", 0, y.meant(0));
    }

    private static void meantOfWhatWent() {
        Check.about("meant of a claim as it is, or was");
        String[] went = {"sorry 0;", "forgive 0;", "join 1 0;"};
        for (String deed : went) {
            SorryPurses x = town("person 4;person 7;wrong 0 1 20;wrong 0 1 5;bite 0;");
            deeds(x, "day 3;tell 0;" + deed);
            Check.due(deed, 1, x.told(2));
            Check.due("told", 69, x.meant(0));
            law(x, "size");
            Check.due("size", 22, x.meant(0));
            law(x, "temper*10+heat");
            Check.due("temper, heat", 47, x.meant(0));
            law(x, "passed*10+told");
            Check.due("passed, told", 1, x.meant(0));
        }
        SorryPurses y = town("person 4;person 7;person 9;wrong 0 1 20;");
        deeds(y, "pass 0 2;pass 0 0;");
        law(y, "passed*30+temper");
        Check.due("home", 64, y.meant(0));
    }

    private static void wouldAtTheEdges() {
        Check.about("would: for such a size, age, temper, heat, told; passed, day, held 0");
        SorryPurses x = town(STREET);
        deeds(x, "day 9;pass 0 2;");
        String[] words = {"size", "age", "temper", "heat", "told"};
        int[] most = {9999, 999, 9, 9, 999};
        for (int i = 0; i < 5; i++) {
            int[] a = new int[5];
            law(x, words[i]);
            Check.due(words[i] + " at 0", 0, x.would(a[0], a[1], a[2], a[3], a[4]));
            a[i] = 1;
            Check.due(words[i] + " at 1", 1, x.would(a[0], a[1], a[2], a[3], a[4]));
            a[i] = most[i];
            Check.due(words[i] + " at most", Math.min(99, most[i]), x.would(a[0], a[1], a[2], a[3], a[4]));
            int part = most[i] / 9;
            law(x, words[i] + "/" + Math.max(1, part / 2) + "/" + (part > 1 ? 2 : 1));
            Check.due(words[i] + " at most, cut", 9, x.would(a[0], a[1], a[2], a[3], a[4]));
        }
        for (String word : new String[] {"passed", "day", "held"}) {
            law(x, word);
            Check.due(word + " of a claim", word.equals("day") ? 9 : word.equals("held") ? 2 : 1, x.meant(0));
            Check.due(word + " is 0", 0, x.would(9, 9, 9, 9, 9));
        }
        Check.due("a law", 1, law(x, "size/101+told/999-age/999"));
        Check.due("99 and 1 less 1", 99, x.would(9999, 999, 9, 9, 999));
        SorryPurses y = new SorryPurses();
        Check.due("without: the most", 95, y.would(0, 0, 9, 0, 0));
        Check.due("without: told 95 times", 0, y.would(9999, 999, 9, 9, 95));
        Check.due("without: told 94 times", 1, y.would(9999, 999, 9, 9, 94));
        Check.due("without: 0 at least", 0, y.would(0, 0, 0, 0, 999));
    }

    private static void open() {
        Check.about("claims that would be paid now, as bits");
        SorryPurses x = town(many("person 1;", 2) + many("wrong 0 1 9;false 1 0 9;", 12) + "bite 55;");
        deeds(x, many("slap 0 1 9;", 16));
        Check.due("all forty", (1L << 40) - 1, x.open());
        deeds(x, "forgive 39;forgive 0;");
        Check.due("38 of them", (1L << 39) - 2, x.open());
        x.bite(56);
        Check.due("none at 56", 0, x.open());
        law(x, "0-9");
        x.bite(1);
        Check.due("none at 1", 0, x.open());
        x.bite(0);
        Check.due("all at 0", (1L << 39) - 2, x.open());
        law(x, "999");
        x.bite(99);
        Check.due("all at 99", (1L << 39) - 2, x.open());
        x.bite(100);
        Check.due("none at 100", 0, x.open());
    }

    private static void paysAtTheEdges() {
        Check.about("pays: the fewest, the first; 0: none");
        SorryPurses x = town(THREE + many("wrong 0 1 1;", 23) + "wrong 2 1 999;");
        Check.due("1", 1, x.pays(1, 2, 1));
        Check.due("23", (1 << 23) - 1, x.pays(1, 2, 23));
        Check.due("24: none", 0, x.pays(1, 2, 24));
        Check.due("999 are on 2", 0, x.pays(1, 2, 999));
        Check.due("999 to 0", 1 << 23, x.pays(1, 0, 999));
        Check.due("ones are on 0", 0, x.pays(1, 0, 1));
        Check.due("he holds nothing", 0, x.pays(0, 1, 1));
        deeds(x, many("slap 0 1 2;", 16));
        Check.due("two", 1L << 24, x.pays(1, 2, 2));
        Check.due("ten are five", 31L << 24, x.pays(1, 2, 10));
        Check.due("39 are 31 and 8", ((1L << 40) - (1L << 24)) + 127, x.pays(1, 2, 39));
        Check.due("55", ((1L << 40) - (1L << 24)) + (1L << 23) - 1, x.pays(1, 2, 55));
        Check.due("56: none", 0, x.pays(1, 2, 56));
    }

    private static void covers() {
        Check.about("cover: the least sum that is no less than a told one; NONE: he has not as much");
        SorryPurses x = town(STREET);
        int[][] want = {{0, 0}, {1, 5}, {5, 5}, {6, 20}, {20, 20}, {21, 25}, {25, 25}, {26, -1}, {9999, -1}};
        for (int[] w : want) {
            Check.due("cover " + w[0], w[1], x.cover(1, w[0]));
        }
        Check.due("false ones too", 12, x.cover(0, 11));
        Check.due("what is on anyone", 35, x.cover(2, 35));
    }

    private static void coversFar() {
        Check.about("cover beyond 9,999");
        SorryPurses x = town(THREE + many("wrong 0 1 999;", 10) + "wrong 0 1 9;");
        Check.due("just as much", 9999, x.cover(1, 9999));
        Check.due("one less", 9999, x.cover(1, 9998));
        Check.due("9,990", 9990, x.cover(1, 9990));
        Check.due("9,991", 9999, x.cover(1, 9991));
        SorryPurses y = town(THREE + "interest 50;" + many("wrong 0 1 999;", 8));
        deeds(y, many("day 1;tell 0;", 10));
        deeds(y, many("day 1;tell 1;", 10));
        Check.due("grown", 9999, y.claim(0, 2));
        deeds(y, "split 1 1;forgive 2;forgive 3;forgive 4;forgive 5;forgive 6;forgive 7;");
        Check.due("one is enough", 9999, y.cover(1, 9999));
        deeds(y, "split 0 1;");
        Check.due("19,996 would be too much", 9999, y.cover(1, 9999));
        deeds(y, "forgive 0;forgive 1;");
        Check.due("9,998 is enough", 9998, y.cover(1, 9998));
        Check.due("9,998 and 9,998", 19996, y.cover(1, 9999));
    }

    /** 40 claims, the first 24 of 9,999 each: far more than what is asked for. */
    private static void sumsOfFar() {
        Check.about("sums of one who holds more than 200,000");
        SorryPurses x = town(THREE + "interest 50;" + many("wrong 0 1 999;", 24));
        for (int from = 0; from < 24; from += 4) {
            StringBuilder four = new StringBuilder();
            for (int day = 0; day < 3; day++) {
                four.append("day 1;");
                for (int k = from; k < from + 4; k++) {
                    four.append("tell ").append(k).append(';');
                }
            }
            deeds(x, four.toString());
            deeds(x, four.toString());
        }
        deeds(x, many("slap 0 1 7;", 2) + "slap 0 1 64;slap 0 1 1;" + many("slap 2 1 999;", 10));
        Check.due("in all", 24 * 9999 + 14 + 64 + 1 + 9990, x.person(1, 1));
        // 0 1 7 8 14 15 and 64 more are twelve, each with 999 up to nine times; 0 1 7 8 with ten; 9,999; not 0
        Check.due("how many", 10 * 12 + 4 + 1 - 1, x.ways(1));
        Check.due("9,999", 9999, x.cover(1, 9999));
        Check.due("9,990 and 8", 9998, x.cover(1, 9998));
        Check.due("1", 1, x.cover(1, 1));
        Check.due("beyond all small ones", 999, x.cover(1, 80));
        Check.due("79", 79, x.cover(1, 79));
        Check.due("none is short of 9,999", 0, x.lacking(1, 9999));
        Check.due("9,990 and 1", 5, x.lacking(1, 9996));
        Check.due("9,990 and 7", 0, x.lacking(1, 9997));
        Check.due("pays with two", (1L << 24) | 1L << 27, x.pays(1, 2, 8));
    }

    private static void ways() {
        Check.about("how many sums (1 to 9,999)");
        Check.due("one", 1, town(THREE + "wrong 0 1 999;").ways(1));
        Check.due("false ones, on anyone", 3, town(THREE + "false 0 1 1;wrong 2 1 2;").ways(1));
        for (int first : new int[] {63, 64, 200}) {
            for (int size = 1; size <= 130; size++) {
                SorryPurses two = town(THREE + "wrong 0 1 " + first + ";wrong 0 1 " + size + ";");
                Check.due(first + " and " + size, size == first ? 2 : 3, two.ways(1));
                Check.due("together", first + size, two.cover(1, first + size));
            }
        }
        Check.due("alike ones", 24, town(THREE + many("wrong 0 1 1;", 24)).ways(1));
        SorryPurses x = town(THREE + many("wrong 0 1 999;", 10) + "wrong 0 1 9;wrong 0 1 1;");
        Check.due("up to 9,999", 10 * 4 + 3 - 1, x.ways(1));
        SorryPurses y = town(THREE + "wrong 0 1 1;wrong 0 1 2;wrong 0 1 4;wrong 0 1 8;wrong 0 1 16;wrong 0 1 32;"
                + "wrong 0 1 64;wrong 0 1 128;wrong 0 1 256;wrong 0 1 512;" + many("wrong 0 1 999;", 10));
        Check.due("all of them", 9999, y.ways(1));
    }

    private static void evens() {
        Check.about("even: the fewest apologies");
        Check.due("one", 1, town("person 1;person 1;wrong 0 1 999;").even(0));
        Check.due("nobody", 0, town("").even(0));
        Check.due("one person alone", 0, town("person 1;").even(0));
        SorryPurses x = town(many("person 1;", 8) + "wrong 0 1 1;wrong 1 2 1;wrong 2 3 1;wrong 3 4 1;wrong 4 5 1;"
                + "wrong 5 6 1;wrong 6 7 1;");
        Check.due("the ends alone", 1, x.even(0));
        Check.due("one group", 1, x.even(1));
        Check.due("its bits", 129, x.group(0));
        SorryPurses y = town(many("person 1;", 8) + "wrong 0 4 1;wrong 1 5 2;wrong 2 6 4;wrong 3 7 8;");
        Check.due("four apologies", 4, y.even(0));
        Check.due("four groups", 4, y.even(1));
        SorryPurses z = town(many("person 1;", 8) + "wrong 0 7 1;wrong 1 7 2;wrong 2 7 4;wrong 3 7 8;wrong 4 7 16;"
                + "wrong 5 7 32;wrong 6 7 64;");
        Check.due("seven apologies", 7, z.even(0));
        Check.due("one group", 1, z.even(1));
        Check.due("its bits", 255, z.group(0));
        Check.due("false ones count", 1, town("person 1;person 1;false 0 1 5;").even(0));
    }

    private static void groups() {
        Check.about("the i-th group; NONE: none such");
        SorryPurses x = town(many("person 1;", 8) + "wrong 0 4 1;wrong 1 5 2;wrong 2 6 4;wrong 3 7 8;");
        int[] want = {17, 34, 68, 136};
        for (int i = 0; i < 4; i++) {
            Check.due("group " + i, want[i], x.group(i));
        }
        for (int i : new int[] {-1, 4, 5, 7, 8, 9, Integer.MIN_VALUE, Integer.MAX_VALUE}) {
            Check.due("group " + i, -1, x.group(i));
        }
        deeds(x, "forgive 0;");
        Check.due("as it is now", 34, x.group(0));
        Check.due("three of them", -1, x.group(3));
        Check.due("no call was refused", 0, x.status(0) + x.status(1) + x.status(2));
    }

    private static void groupsOfAlikeWays() {
        Check.about("the group of the least person first; it the least bits, then the next");
        // worths -1 -1 1 1: 0 2 and 1 3, not 0 3 and 1 2
        SorryPurses x = town(FOUR + "wrong 0 2 1;wrong 1 3 1;");
        Check.due("group 0", 5, x.group(0));
        Check.due("group 1", 10, x.group(1));
        // worths 0 -1 -1 1 1 0 0 0
        SorryPurses y = town(many("person 1;", 8) + "wrong 1 3 1;wrong 2 4 1;");
        Check.due("group 0", 10, y.group(0));
        Check.due("group 1", 20, y.group(1));
        // worths 3 2 -5 -3 3: 0 1 2 and 3 4, or 0 3 and 1 2 4
        SorryPurses z = town(FOUR + "person 1;wrong 2 0 3;wrong 2 1 2;wrong 3 4 3;");
        Check.due("the least bits", 7, z.group(0));
        Check.due("what is left", 24, z.group(1));
        // worths -2 -2 -2 2 2 2
        SorryPurses w = town(FOUR + "person 1;person 1;wrong 0 5 2;wrong 1 4 2;wrong 2 3 2;");
        Check.due("group 0", 9, w.group(0));
        Check.due("group 1", 18, w.group(1));
        Check.due("group 2", 36, w.group(2));
        // worths -4 -2 1 1 4: as many sets as can be first: 0 4 and 1 2 3
        SorryPurses v = town(FOUR + "person 1;wrong 0 2 1;wrong 0 3 1;wrong 0 4 2;wrong 1 4 2;");
        Check.due("two groups", 2, v.even(1));
        Check.due("group 0", 17, v.group(0));
        Check.due("group 1", 14, v.group(1));
        Check.due("three apologies", 3, v.even(0));
        // worths -1 -2 -3 1 2 3, then -11 -2 -3 1 12 3: 2 5, and 0 1 3 4
        SorryPurses u = town(FOUR + "person 1;person 1;wrong 0 3 1;wrong 1 4 2;wrong 2 5 3;");
        Check.due("three groups", 3, u.even(1));
        deeds(u, "slap 0 4 10;");
        Check.due("two groups then", 2, u.even(1));
        Check.due("four apologies", 4, u.even(0));
        Check.due("group 0", 27, u.group(0));
        Check.due("group 1", 36, u.group(1));
    }

    private static void oneDays() {
        Check.about("one day: each says one at most, each hears one at most, the most sorrows together");
        Check.due("the most, not the most apologies", 9, town(THREE + "wrong 0 1 9;wrong 0 2 4;wrong 2 1 4;").oneDay());
        Check.due("the most together", 10, town(THREE + "wrong 0 1 9;wrong 0 2 5;wrong 2 1 5;").oneDay());
        Check.due("a round", 6, town(THREE + "wrong 0 1 1;wrong 1 2 2;wrong 2 0 3;").oneDay());
        Check.due("to and fro", 3, town(THREE + "wrong 0 1 1;wrong 1 0 2;").oneDay());
        Check.due("the claim of the most alone", 7, town(THREE + "wrong 0 1 1;wrong 0 1 7;wrong 0 1 5;").oneDay());
        SorryPurses x = town(THREE + "wrong 0 1 9;wrong 0 1 5;bite 70;");
        law(x, "75-size");
        Check.due("what would be paid alone", 5, x.oneDay());
        Check.due("it is said", 1, x.says(0));
        x.bite(71);
        Check.due("none would be", 0, x.oneDay());
        Check.due("nobody says it", -1, x.says(0));
        SorryPurses eight = town(many("person 1;", 8) + "wrong 0 1 999;wrong 1 2 999;wrong 2 3 999;wrong 3 4 999;"
                + "wrong 4 5 999;wrong 5 6 999;wrong 6 7 999;wrong 7 0 999;");
        Check.due("all eight", 8 * 999, eight.oneDay());
        for (int p = 0; p < 8; p++) {
            Check.due("says " + p, p, eight.says(p));
        }
        Check.due("a smaller town", 1, eight.town(put(eight, THREE + "wrong 2 0 5;")));
        Check.due("its day", 5, eight.oneDay());
        Check.due("nobody there", -1, eight.says(0));
        Check.due("nobody there", -1, eight.says(1));
        Check.due("he says it", 0, eight.says(2));
    }

    private static void oneDayNow() {
        Check.about("one day: claims that would be paid as all is now");
        SorryPurses eight = town(many("person 1;", 8) + "wrong 0 1 999;wrong 1 2 999;wrong 2 3 999;wrong 3 4 999;"
                + "wrong 4 5 999;wrong 5 6 999;wrong 6 7 999;wrong 7 0 999;");
        law(eight, "held*15");
        Check.due("as many as each holds now", 0, eight.oneDay());
        eight.bite(15);
        Check.due("as many as each holds now", 8 * 999, eight.oneDay());
    }

    private static void saysDue(String text, int... want) {
        SorryPurses x = town(text);
        for (int p = 0; p < want.length; p++) {
            Check.due(text + ": says " + p, want[p], x.says(p));
        }
    }

    private static void oneDayOfAlikeWays() {
        Check.about("one day, of alike ways the first: nobody ahead of people, by numbers; the most, the least number");
        saysDue(THREE + "wrong 0 2 5;wrong 1 2 5;", -1, 1, -1);
        saysDue(THREE + "wrong 0 2 6;wrong 1 2 5;", 0, -1, -1);
        saysDue(THREE + "wrong 0 2 5;wrong 0 1 5;", 1, -1, -1);
        saysDue(THREE + "wrong 0 2 6;wrong 0 1 5;", 0, -1, -1);
        saysDue(THREE + "wrong 0 1 4;wrong 0 1 5;wrong 0 1 5;", 1, -1, -1);
        saysDue(THREE + "wrong 0 1 5;wrong 0 2 5;wrong 1 0 5;wrong 1 2 5;wrong 2 0 5;wrong 2 1 5;", 0, 3, 4);
        saysDue(FOUR + "wrong 0 2 5;wrong 0 3 5;wrong 1 2 5;wrong 1 3 5;", 0, 3, -1, -1);
        saysDue(FOUR + "wrong 0 2 5;wrong 0 3 5;wrong 1 2 5;", 1, 2, -1, -1);
        saysDue(FOUR + "wrong 0 3 7;wrong 1 3 3;wrong 2 3 7;", -1, -1, 2, -1);
        saysDue(FOUR + "wrong 0 3 7;wrong 1 3 3;wrong 1 2 4;wrong 2 3 3;", 0, 2, -1, -1);
    }

    private static void liesDue(SorryPurses x, String text, long many, long bits) {
        Check.due("book " + text, text.length() - text.replace(";", "").length(), book(x, text));
        Check.due(text + ": how many", many, x.lies(0));
        Check.due(text + ": bits", bits, x.lies(1));
    }

    private static void lies() {
        Check.about("false ones by the book; NONE: by no set");
        SorryPurses x = town(STREET);
        liesDue(x, "", 0, 0);
        liesDue(x, "0 -13;1 -10;2 23;", 0, 0);
        liesDue(x, "0 -14;", -1, -1);
        liesDue(x, "0 -13;1 -10;2 24;", -1, -1);
        liesDue(x, "0 0;1 0;2 0;", 4, 15);
        liesDue(x, "0 -20;", 2, 12);
        liesDue(x, "0 -25;", 1, 4);
        liesDue(x, "0 12;", 2, 9);
        liesDue(x, "0 -25;0 -25;", 1, 4);
        liesDue(x, "0 -25;0 -13;", -1, -1);
        liesDue(x, "1 9999;", -1, -1);
        liesDue(x, "1 -9999;", -1, -1);
        SorryPurses y = town(THREE);
        liesDue(y, "0 0;1 0;2 -0;", 0, 0);
        liesDue(y, "0 1;", -1, -1);
    }

    private static void liesSixteen() {
        Check.about("16 that stand at most");
        SorryPurses x = town(THREE + many("wrong 0 1 1;", 24));
        deeds(x, "forgive 0;forgive 1;forgive 2;forgive 3;forgive 4;forgive 5;forgive 6;");
        Check.due("17", 17, x.told(2));
        Check.refused("lies(0) of 17", STATE, () -> x.lies(0));
        Check.refused("lies(1) of 17", STATE, () -> x.lies(1));
        Check.due("states", 2, x.status(2));
        Check.refused("lies(2) of 17", BAD, () -> x.lies(2));
        Check.refused("lies(-1) of 17", BAD, () -> x.lies(-1));
        Check.due("states", 2, x.status(2));
        Check.due("arguments", 2, x.status(1));
        deeds(x, "forgive 23;");
        liesDue(x, "1 0;", 16, (1 << 23) - (1 << 7));
        liesDue(x, "1 1;", 15, (1 << 22) - (1 << 7));
        liesDue(x, "1 16;", 0, 0);
        liesDue(x, "1 17;", -1, -1);
        SorryPurses y = town(THREE + many("wrong 0 1 1;", 24));
        deeds(y, many("slap 0 1 2;", 16));
        for (int from = 0; from < 24; from += 12) {
            StringBuilder all = new StringBuilder();
            for (int k = from; k < from + 12; k++) {
                all.append("forgive ").append(k).append(';');
            }
            deeds(y, all.toString());
        }
        liesDue(y, "0 0;", 16, ((1L << 40) - (1L << 24)));
        liesDue(y, "0 -30;", 1, 1L << 24);
        liesDue(y, "0 -31;", -1, -1);
    }

    private static void liesOfAlikeOnes() {
        Check.about("the fewest, of alike ones the least bits");
        SorryPurses x = town(THREE + "wrong 0 1 2;wrong 0 1 3;wrong 0 1 5;wrong 0 1 4;wrong 0 1 1;");
        liesDue(x, "1 10;", 1, 4);
        liesDue(x, "1 9;", 2, 9);
        liesDue(x, "1 11;", 1, 8);
        liesDue(x, "1 12;", 1, 2);
        liesDue(x, "1 8;", 2, 5);
        liesDue(x, "1 0;", 5, 31);
        SorryPurses y = town(THREE + "wrong 0 1 5;wrong 2 1 5;wrong 0 1 5;");
        liesDue(y, "1 10;", 1, 1);
        liesDue(y, "1 10;2 0;", 1, 2);
        liesDue(y, "1 5;", 2, 3);
        liesDue(y, "1 5;2 -5;", 2, 5);
        deeds(y, "forgive 0;");
        liesDue(y, "1 5;", 1, 2);
    }

    private static void rights() {
        Check.about("how many lines are so truly, from the first on");
        SorryPurses x = town(STREET);
        Check.due("no lines", 0, x.right());
        String[] books = {"0 -25;1 -10;2 35;", "0 -24;1 -10;2 35;", "0 -25;1 10;2 35;", "0 -25;1 -10;2 36;",
            "0 -25;0 -25;0 -25;0 -25;0 -25;0 -25;0 -25;0 -25;", "0 25;", "0 -13;", ""};
        int[] want = {3, 0, 1, 2, 8, 0, 0, 0};
        for (int i = 0; i < books.length; i++) {
            book(x, books[i]);
            Check.due("book " + books[i], want[i], x.right());
        }
        book(x, "0 -25;");
        deeds(x, "forgive 2;");
        Check.due("a false one is gone", 1, x.right());
        deeds(x, "forgive 3;");
        Check.due("a true one is gone", 0, x.right());
    }

    private static void errorsOfABite() {
        Check.about("errors of a bite: true ones not paid, false ones paid");
        SorryPurses x = town(THREE + "wrong 0 1 1;false 0 1 1;wrong 2 1 1;false 2 1 1;");
        int[][] want = {{0, 0, 2}, {50, 0, 2}, {51, 1, 1}, {70, 1, 1}, {71, 2, 0}, {100, 2, 0}};
        for (int[] w : want) {
            Check.due("bite " + w[0], w[1], x.errors(w[0], 0));
            Check.due("bite " + w[0], w[2], x.errors(w[0], 1));
        }
        Check.due("the bite of now is left out", 30, x.told(5));
        deeds(x, "forgive 0;forgive 1;");
        Check.due("what stands", 1, x.errors(100, 0));
        Check.due("what stands", 1, x.errors(0, 1));
        law(x, "999");
        Check.due("99 is below 100", 1, x.errors(100, 0));
        Check.due("99 is not below 99", 0, x.errors(99, 0));
    }

    private static void bestDue(int want, String law, String text) {
        SorryPurses x = town(text);
        law(x, law);
        Check.due(text + " by " + law, want, x.best());
    }

    private static void bests() {
        Check.about("the bite of the fewest errors together, of these the least");
        String two = "person 0;person 0;";
        bestDue(0, "5", two);
        bestDue(0, "size", two + "wrong 0 1 5;");
        bestDue(6, "size", two + "false 0 1 5;");
        bestDue(6, "size", two + "false 0 1 5;wrong 0 1 6;");
        bestDue(0, "size", two + "false 0 1 6;wrong 0 1 5;");
        bestDue(0, "size", two + "false 0 1 5;wrong 0 1 5;");
        bestDue(6, "size", two + "false 0 1 5;wrong 0 1 5;false 0 1 5;");
        bestDue(100, "999", two + "false 0 1 5;");
        bestDue(1, "0", two + "false 0 1 5;");
        bestDue(99, "size", two + "false 0 1 98;wrong 0 1 99;");
        bestDue(100, "size", two + "false 0 1 99;");
        SorryPurses x = town(two + "false 0 1 5;wrong 0 1 9;");
        law(x, "size");
        Check.due("6", 6, x.best());
        deeds(x, "forgive 0;");
        Check.due("what stands", 0, x.best());
        Check.due("the bite stays", 30, x.told(5));
    }

    private static void bites() {
        Check.about("the bite is another one: what it was");
        SorryPurses x = new SorryPurses();
        int was = 30;
        for (int bite : new int[] {0, 100, 50, 50, 1, 99}) {
            Check.due("what it was", was, x.bite(bite));
            Check.due("what it is", bite, x.told(5));
            was = bite;
        }
        for (int bite : new int[] {-1, 101, Integer.MIN_VALUE, Integer.MAX_VALUE}) {
            refuses(x, BAD, "bite(" + bite + ")", () -> x.bite(bite));
        }
    }

    private static void swells() {
        Check.about("swell: all that stands is told on n days in a row, from the next on");
        SorryPurses x = town(STREET);
        Check.due("no days", 72, x.swell(0));
        deeds(x, "tell 0;tell 1;tell 2;tell 3;");
        Check.due("told on this day already", 22 + 38 + 13 + 6, x.swell(0));
        Check.due("the next day", 24 + 41 + 14 + 7, x.swell(1));
        deeds(x, "forgive 1;");
        Check.due("what stands", 24 + 14 + 7, x.swell(1));
        Check.due("1 a day without interest", 1 + 60, town(THREE + "interest 0;false 0 1 1;").swell(60));
        SorryPurses most = town("person 1;person 1;interest 50;" + many("wrong 0 1 999;", 24));
        deeds(most, many("slap 0 1 1;", 16));
        Check.due("40 times 9,999", 40 * 9999, most.swell(60));
        Check.due("none stands", 0, town(THREE).swell(60));
    }

    private static void bursts() {
        Check.about("burst: the first of so many days (1 to 60); NONE");
        SorryPurses x = town(THREE + "interest 0;wrong 0 1 100;");
        Check.due("below", 1, x.burst(Integer.MIN_VALUE));
        Check.due("0", 1, x.burst(0));
        Check.due("what it is already", 1, x.burst(100));
        Check.due("101", 1, x.burst(101));
        Check.due("102", 2, x.burst(102));
        Check.due("159", 59, x.burst(159));
        Check.due("160", 60, x.burst(160));
        Check.due("161", -1, x.burst(161));
        Check.due("the most", -1, x.burst(Integer.MAX_VALUE));
        SorryPurses y = town("person 1;person 1;interest 50;" + many("wrong 0 1 999;", 24));
        int day = y.burst(24 * 9999);
        Check.due("it has come to its most", 24 * 9999, y.swell(day));
        Check.due("not the day ahead", 1, y.swell(day - 1) < 24 * 9999 ? 1 : 0);
        Check.due("never more", -1, y.burst(24 * 9999 + 1));
        SorryPurses none = new SorryPurses();
        Check.due("of nothing", 1, none.burst(0));
        Check.due("of nothing", -1, none.burst(1));
        Check.due("no call was refused", 0, x.status(1) + y.status(1) + none.status(1));
    }

    private static void tills() {
        Check.about("settled: neither would get more by doing the other thing");
        int[] values = {-99, -98, 0, 98, 99};
        for (int a : values) {
            for (int b : values) {
                for (int c : values) {
                    for (int d : values) {
                        int want = (c > a ? 0 : 1) + (d > b || a > c ? 0 : 6) + (b > d ? 0 : 8);
                        if ((a + b + c + d & 1) == 0) {
                            Check.due("till " + a + " " + b + " " + c + " " + d, want, new SorryPurses().till(a, b, c, d));
                        }
                    }
                }
            }
        }
        for (int far : new int[] {-100, 100, Integer.MIN_VALUE, Integer.MAX_VALUE}) {
            SorryPurses x = new SorryPurses();
            refuses(x, BAD, "a " + far, () -> x.till(far, 0, 0, 0));
            refuses(x, BAD, "b " + far, () -> x.till(0, far, 0, 0));
            refuses(x, BAD, "c " + far, () -> x.till(0, 0, far, 0));
            refuses(x, BAD, "d " + far, () -> x.till(0, 0, 0, far));
        }
    }

    private static void extremes() {
        Check.about("richest, poorest, of these the first; NONE: there are no people");
        Check.due("one alone", 0, town("person 1;").extreme(0));
        Check.due("one alone", 0, town("person 1;").extreme(1));
        SorryPurses x = town(FOUR + "wrong 1 2 5;wrong 0 3 5;");
        Check.due("the first richest", 2, x.extreme(0));
        Check.due("the first poorest", 0, x.extreme(1));
        SorryPurses y = town(FOUR + "wrong 1 2 5;wrong 3 2 5;");
        Check.due("richest", 2, y.extreme(0));
        Check.due("the first poorest", 1, y.extreme(1));
        SorryPurses z = town(many("person 1;", 8) + "false 0 7 1;");
        Check.due("false ones count", 7, z.extreme(0));
        Check.due("false ones count", 0, z.extreme(1));
        Check.due("nobody", -1, new SorryPurses().extreme(0));
        Check.due("nobody", -1, new SorryPurses().extreme(1));
    }

    private static void chosen() {
        Check.about("oldest, sweetest, of these the first; NONE: none stands");
        SorryPurses x = town("person 3;person 3;person 4;wrong 0 1 1;false 2 0 1;wrong 2 1 1;");
        Check.due("oldest", 0, x.chosen(0));
        Check.due("sweetest", 1, x.chosen(1));
        deeds(x, "day 1;slap 2 1 1;slap 2 0 1;tell 1;");
        Check.due("told, it is less meant", 2, x.chosen(1));
        deeds(x, "forgive 0;");
        Check.due("oldest", 1, x.chosen(0));
        deeds(x, "forgive 1;forgive 2;");
        Check.due("oldest", 3, x.chosen(0));
        deeds(x, "split 4 1;forgive 3;");
        Check.due("oldest", 4, x.chosen(0));
        law(x, "0-5");
        Check.due("sweetest at 0", 4, x.chosen(1));
        deeds(x, "forgive 4;");
        Check.due("none", -1, x.chosen(0));
        Check.due("none", -1, x.chosen(1));
        SorryPurses y = town(THREE + "wrong 0 1 1;wrong 1 0 1;");
        deeds(y, "day 1;slap 0 1 1;split 0 1;pass 1 2;");
        law(y, "day-age");
        Check.due("the youngest is most meant", 2, y.chosen(1));
    }

    private static void heard() {
        Check.about("heard: one after the other by number, each that goes changes how many he holds");
        SorryPurses x = town(THREE + "wrong 0 1 1;wrong 2 1 2;false 0 1 4;wrong 0 1 8;wrong 1 0 16;bite 60;");
        law(x, "held*20");
        Check.due("four, three, then two", 1 + 2, x.heard(1));
        law(x, "140-held*20");
        Check.due("four of 60, 80, ..", 15, x.heard(1));
        law(x, "120-held*20");
        Check.due("none goes", 0, x.heard(1));
        law(x, "120-held*20+size/2*20");
        Check.due("the second goes, then all behind it", 14, x.heard(1));
        law(x, "60-told");
        Check.due("all", 15, x.heard(1));
        x.bite(61);
        Check.due("none", 0, x.heard(1));
        x.bite(60);
        deeds(x, "forgive 3;pass 1 0;");
        Check.due("what he holds", 5, x.heard(1));
        Check.due("what he holds", 18, x.heard(0));
        Check.due("nothing", 0, x.heard(2));
    }

    private static void payers() {
        Check.about("people who can pay N to one");
        SorryPurses x = town(many("person 1;", 8) + "wrong 7 0 9;wrong 6 1 9;wrong 0 2 9;wrong 1 7 9;wrong 1 3 4;"
                + "wrong 2 3 5;wrong 0 4 10;");
        Check.due("to 5", 1 + 2 + 4 + 128 + 8, x.payers(5, 9));
        Check.due("to 0: not what is on him, not he himself", 2 + 128 + 8, x.payers(0, 9));
        Check.due("to 7", 2 + 4 + 8, x.payers(7, 9));
        Check.due("to 1", 1 + 4, x.payers(1, 9));
        Check.due("10", 16, x.payers(1, 10));
        Check.due("999", 0, x.payers(1, 999));
        Check.due("1", 0, x.payers(1, 1));
        SorryPurses y = town("person 1;");
        Check.due("one alone", 0, y.payers(0, 1));
    }

    private static void lacking() {
        Check.about("short of N: less than N by how much the greatest sum is, no more than N");
        SorryPurses x = town(STREET);
        int[][] want = {{0, 0}, {1, 1}, {4, 4}, {5, 0}, {6, 1}, {19, 14}, {20, 0}, {21, 1}, {24, 4}, {25, 0}, {26, 1},
            {9999, 9974}};
        for (int[] w : want) {
            Check.due("lacking " + w[0], w[1], x.lacking(1, w[0]));
        }
        SorryPurses one = town(THREE + "wrong 0 1 1;");
        Check.due("1 of 1", 0, one.lacking(1, 1));
        Check.due("1 of 2", 1, one.lacking(1, 2));
        SorryPurses y = town(THREE + many("wrong 0 1 999;", 10) + "wrong 0 1 10;");
        Check.due("10,000 are too many", 9, y.lacking(1, 9999));
        Check.due("9,990", 0, y.lacking(1, 9990));
        Check.due("9,989", 988, y.lacking(1, 9989));
    }

    private static void grown() {
        Check.about("grown: told on each of the next n days; 0: it is gone");
        SorryPurses x = town(STREET);
        deeds(x, "tell 0;forgive 1;");
        Check.due("no days", 22, x.grown(0, 0));
        Check.due("from the next day on", 24, x.grown(0, 1));
        Check.due("26", 26, x.grown(0, 2));
        Check.due("gone", 0, x.grown(1, 0));
        Check.due("gone", 0, x.grown(1, 60));
        SorryPurses y = town(THREE + "interest 0;wrong 0 1 1;");
        Check.due("1 a day", 61, y.grown(0, 60));
        SorryPurses z = town(THREE + "interest 50;wrong 0 1 999;");
        Check.due("5 days", 7582, z.grown(0, 5));
        Check.due("9,999 at most", 9999, z.grown(0, 6));
        Check.due("9,999 at most", 9999, z.grown(0, 60));
    }

    private static void squares() {
        Check.about("people of worth 0, as bits");
        Check.due("all eight", 255, town(many("person 1;", 8)).square());
        Check.due("one alone", 1, town("person 1;").square());
        Check.due("false ones count", 252, town(many("person 1;", 8) + "false 0 1 1;").square());
        Check.due("what is even", 255, town(many("person 1;", 8) + "false 0 7 1;wrong 7 0 1;").square());
    }

    private static void aged() {
        Check.about("claims that stand and were made n days ago or more");
        SorryPurses x = town("person 1;person 1;" + many("wrong 0 1 9;", 24));
        deeds(x, "day 1;" + many("slap 0 1 9;", 15) + "day 1;");
        deeds(x, "day 1;slap 0 1 9;");
        Check.due("all", (1L << 40) - 1, x.aged(0));
        Check.due("1 day", (1L << 39) - 1, x.aged(1));
        Check.due("2 days", (1L << 39) - 1, x.aged(2));
        Check.due("3 days", (1L << 24) - 1, x.aged(3));
        Check.due("4 days", 0, x.aged(4));
        deeds(x, "forgive 0;forgive 38;");
        Check.due("what stands", (1L << 38) - 2, x.aged(2));
        Check.due("9,999 days", 0, x.aged(9999));
    }

    private static void masters() {
        Check.about("who holds most sorrows on him, of these the first; NONE: nothing is on him");
        SorryPurses x = town(FOUR + "wrong 0 3 5;wrong 0 2 2;wrong 0 1 5;wrong 0 2 2;false 1 0 9;");
        Check.due("the first", 1, x.master(0));
        deeds(x, "slap 0 2 1;");
        Check.due("the first of three", 1, x.master(0));
        deeds(x, "slap 0 2 1;");
        Check.due("together", 2, x.master(0));
        Check.due("false ones count", 0, x.master(1));
        Check.due("nothing is on him", -1, x.master(2));
        Check.due("one sorrow", 2, town(THREE + "wrong 0 2 1;").master(0));
        deeds(x, "pass 4 1;");
        Check.due("it is home", -1, x.master(1));
    }

    /** The month once more; of each world the sizes that stand, who owes and who holds them. */
    private static long[] plainMonth(int people, int[][] claims, int seed, int n, int q, int z) {
        long s = seed & 0xFFFFFFFFL;
        int[][] all = new int[40][];
        int made = claims.length;
        System.arraycopy(claims, 0, all, 0, made);
        long saints = 0;
        for (int day = 0; day < n; day++) {
            for (int p = 0; p < people; p++) {
                s = next(s);
                if (drawn(s) % 16 < q && people > 1) {
                    s = next(s);
                    int to = (p + 1 + drawn(s) % (people - 1)) % people;
                    s = next(s);
                    int size = drawn(s) % 9 + 1;
                    if (made < 40) {
                        all[made++] = new int[] {p, to, size};
                    }
                }
            }
            s = next(s);
            if (drawn(s) % 16 < z) {
                int top = -1;
                for (int k = 0; k < made; k++) {
                    top = all[k][2] > (top < 0 ? 0 : all[top][2]) ? k : top;
                }
                saints += top < 0 ? 0 : all[top][2];
                if (top >= 0) {
                    all[top] = new int[] {0, 0, 0};
                }
            }
        }
        return sumUp(people, all, made, saints);
    }

    private static long next(long s) {
        return (s * 1103515245L + 12345L) & 0xFFFFFFFFL;
    }

    private static int drawn(long s) {
        return (int) (s >> 16 & 0x7FFF);
    }

    private static long[] sumUp(int people, int[][] all, int made, long saints) {
        long sum = 0;
        long many = 0;
        long[] worth = new long[people];
        for (int k = 0; k < made; k++) {
            sum += all[k][2];
            many += all[k][2] > 0 ? 1 : 0;
            if (people > 0) {
                worth[all[k][1]] += all[k][2];
                worth[all[k][0]] -= all[k][2];
            }
        }
        long top = people > 0 ? 0 : -1;
        for (int p = 1; p < people; p++) {
            top = worth[p] > worth[(int) top] ? p : top;
        }
        return new long[] {sum, many, saints, top};
    }

    private static void monthDue(SorryPurses x, int[][] claims, int seed, int n, int q, int z) {
        long[] want = plainMonth(x.told(0), claims, seed, n, q, z);
        for (int what = 0; what < 4; what++) {
            String call = "month " + seed + " " + n + " " + q + " " + z + " " + what + " of " + x.told(0);
            Check.due(call, want[what], x.month(seed, n, q, z, what));
        }
    }

    private static void months() {
        Check.about("a month of n days (1 to 30), q, z 0 to 16, any seed");
        int[] seeds = {0, 1, -1, Integer.MAX_VALUE, Integer.MIN_VALUE, 12345, -77777};
        for (int people = 0; people <= 8; people++) {
            for (int seed : seeds) {
                SorryPurses x = town(many("person 1;", people));
                monthDue(x, new int[0][], seed, 1, 0, 0);
                monthDue(x, new int[0][], seed, 1, 16, 0);
                monthDue(x, new int[0][], seed, 1, 16, 16);
                monthDue(x, new int[0][], seed, 30, 16, 16);
                monthDue(x, new int[0][], seed, 30, 0, 16);
                monthDue(x, new int[0][], seed, 30, 1, 1);
                monthDue(x, new int[0][], seed, 30, 15, 15);
                monthDue(x, new int[0][], seed, 7, 8, 8);
            }
        }
    }

    private static void monthsOfForty() {
        Check.about("a month in which slaps are refused, for there are 40 claims");
        for (int made = 22; made <= 40; made++) {
            SorryPurses x = town("person 1;person 1;person 1;" + many("wrong 0 1 9;", Math.min(24, made)));
            deeds(x, many("slap 2 1 3;", Math.max(0, made - 24)));
            int[][] claims = new int[made][];
            for (int k = 0; k < made; k++) {
                claims[k] = k < 24 ? new int[] {0, 1, 9} : new int[] {2, 1, 3};
            }
            monthDue(x, claims, made, 30, 16, 16);
            monthDue(x, claims, made, 30, 16, 0);
            monthDue(x, claims, made, 30, 5, 9);
            monthDue(x, claims, made, 3, 9, 9);
            Check.due("nothing stays changed", made, x.told(1));
            Check.due("nothing stays changed", made, x.told(2));
            Check.due("nothing stays changed", 0, x.told(3));
        }
    }

    private static void saints() {
        Check.about("a saint forgives the claim of the greatest size, of these the least number");
        SorryPurses x = town(THREE + "wrong 0 1 5;wrong 0 2 9;wrong 1 2 9;false 1 0 9;");
        int[] sorrows = {32, 23, 14, 5, 0, 0};
        int[] richest = {2, 2, 0, 1, 0, 0};
        int[] forgiven = {0, 9, 18, 27, 32, 32};
        for (int n = 1; n <= 5; n++) {
            Check.due("sorrows in " + n, sorrows[n], x.month(3, n, 0, 16, 0));
            Check.due("claims in " + n, Math.max(0, 4 - n), x.month(3, n, 0, 16, 1));
            Check.due("forgiven in " + n, forgiven[n], x.month(3, n, 0, 16, 2));
            Check.due("richest in " + n, richest[n], x.month(3, n, 0, 16, 3));
        }
        Check.due("no saint at 0", 32, x.month(3, 30, 0, 0, 0));
        Check.due("burnt ones stay what they are", 0, x.sums(3));
        SorryPurses one = town("person 1;");
        Check.due("he slaps nobody", 0, one.month(1, 30, 16, 0, 1));
        Check.due("he is the richest", 0, one.month(1, 30, 16, 16, 3));
    }

    private static void spans() {
        Check.about("of so many seeds (1 to 20; seed, seed and 1, ..)");
        for (int seed : new int[] {0, -10, Integer.MAX_VALUE - 3, Integer.MIN_VALUE}) {
            for (int many : new int[] {1, 2, 20}) {
                SorryPurses x = town(FOUR);
                long fewest = Long.MAX_VALUE;
                long most = 0;
                long[] first = new long[4];
                for (int i = 0; i < many; i++) {
                    long[] m = plainMonth(4, new int[0][], seed + i, 5, 6, 7);
                    fewest = Math.min(fewest, m[0]);
                    most = Math.max(most, m[0]);
                    first[(int) m[3]]++;
                }
                String call = "span " + seed + " " + many;
                Check.due(call + " fewest", fewest, x.span(seed, many, 5, 6, 7, 0, 0));
                Check.due(call + " most", most, x.span(seed, many, 5, 6, 7, 1, 3));
                for (int p = 0; p < 4; p++) {
                    Check.due(call + " of " + p, first[p], x.span(seed, many, 5, 6, 7, 2, p));
                }
            }
        }
        SorryPurses y = town(THREE);
        Check.due("nothing stands: the fewest", 0, y.span(1, 20, 1, 0, 0, 0, 0));
        Check.due("nothing stands: the most", 0, y.span(1, 20, 1, 0, 0, 1, 0));
        Check.due("all alike: the first", 20, y.span(1, 20, 1, 0, 0, 2, 0));
        Check.due("not another", 0, y.span(1, 20, 1, 0, 0, 2, 1));
    }

    private static void statuses() {
        Check.about("how many calls were refused; NONE for others");
        SorryPurses x = town(STREET);
        for (int i = 1; i <= 5; i++) {
            Check.refused("no claim", NO_SUCH, () -> x.meant(4));
            Check.refused("no what", BAD, () -> x.told(8));
            Check.due("no such", i, x.status(0));
            Check.due("arguments", i, x.status(1));
            Check.due("states", 0, x.status(2));
        }
        for (int what : new int[] {-1, 3, 4, Integer.MIN_VALUE, Integer.MAX_VALUE}) {
            Check.due("others", -1, x.status(what));
        }
        Check.due("faults, -1, -20, NONE are no refused calls", -9, deeds(x, "x"));
        x.undo();
        x.restore();
        x.group(9);
        x.town(0);
        Check.due("no such", 5, x.status(0));
        Check.due("arguments", 5, x.status(1));
        Check.due("states", 0, x.status(2));
    }

    private static void counts() {
        Check.about("0 images, 1 bytes of the tape, 2 rows; NONE for others");
        SorryPurses x = town(STREET);
        for (int what : new int[] {-1, 3, 4, Integer.MIN_VALUE, Integer.MAX_VALUE}) {
            Check.due("others", -1, x.count(what));
        }
        put(x, "12345678901234567890x");
        Check.due("bytes", 40, x.count(1));
        x.image();
        Check.due("images", 1, x.count(0));
        Check.due("rows", 0, x.count(2));
        x.deeds(0);
        Check.due("bytes", 0, x.count(1));
        Check.due("rows", 1, x.count(2));
        x.restore();
        Check.due("images", 0, x.count(0));
        Check.due("rows", 0, x.count(2));
        Check.due("no call was refused", 0, x.status(0) + x.status(1) + x.status(2));
    }

    private static void nothingStaysChanged() {
        Check.about("asked, nothing stays changed");
        SorryPurses x = town(STREET);
        law(x, "50+held+age+day+5*temper-told");
        book(x, "0 -25;2 35;");
        deeds(x, "day 1;tell 0;sorry 39;");
        x.image();
        put(x, "tape");
        String before = all(x) + x.fault() + " " + x.count(1);
        ask(x);
        Check.due("all", before, all(x) + x.fault() + " " + x.count(1));
        Check.due("told on this day", 0, x.status(0) + x.status(1) + x.status(2));
        ask(x);
        x.town(0);
        Check.due("the town is gone", 0, x.told(0));
    }

    private static void ask(SorryPurses x) {
        x.open();
        x.pays(1, 2, 25);
        x.cover(1, 6);
        x.ways(1);
        x.even(0);
        x.even(1);
        x.group(0);
        x.oneDay();
        x.says(0);
        x.lies(0);
        x.lies(1);
        x.right();
        x.errors(100, 0);
        x.best();
        x.swell(60);
        x.burst(1000);
        x.till(1, 2, 3, 4);
        x.extreme(0);
        x.chosen(1);
        x.heard(1);
        x.payers(2, 25);
        x.lacking(1, 24);
        x.grown(0, 60);
        x.square();
        x.aged(1);
        x.master(0);
        x.meant(0);
        x.would(1, 2, 3, 4, 5);
        x.month(9, 30, 16, 16, 2);
        x.span(9, 20, 30, 8, 8, 2, 1);
    }

    private static void calls512() {
        Check.about("an object is used for at most 512 calls");
        SorryPurses x = new SorryPurses();
        int calls = 0;
        x.town(put(x, "person 1;person 1;  "));
        calls += 2;
        for (; calls < 510; calls += 4) {
            x.town(put(x, "person 1;person 1;  "));
            deeds(x, "slap 0 1 7;day 1;   ");
        }
        Check.due("calls so far", 510, calls);
        Check.due("the 511th", 7, x.worth(1, 0));
        Check.due("the 512th", 1, x.told(3));
    }
}
