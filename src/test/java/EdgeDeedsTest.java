import support.Check;

/** The edges of DEEDS: of each the last that is done and the first that is REFUSED, which changes nothing. */
public final class EdgeDeedsTest extends Play {
    public static void main(String[] args) {
        days();
        slaps();
        passes();
        splits();
        splitAlike();
        joins();
        joinsBeyond();
        tells();
        tellsBeyond();
        tellsOnceADay();
        sorries();
        sorryAsItIsNow();
        wronglies();
        forgives();
        pays();
        paysFewest();
        paysFirst();
        goneIsGone();
        neverMade();
        fortyClaims();
        oneByOne();
        sumsOfAll();
        refusedOfTheLatest();
        undone();
        undoneToNothing();
        twentyUndone();
        images();
        imagesKeep();
        imagesDoNotKeep();
        imageOfRows();
        fullHouse();
        Check.end();
    }

    private static void done(SorryPurses x, String text) {
        int rows = x.count(2);
        int deeds = text.length() - text.replace(";", "").length();
        Check.due("done: " + text, deeds, deeds(x, text));
        Check.due("none refused: " + text, 0, x.told(7));
        Check.due("a row more: " + text, rows + 1, x.count(2));
    }

    /** Each is refused, and nothing changes but that there is one row more. */
    private static void vain(SorryPurses x, String text) {
        String before = world(x);
        int rows = x.count(2);
        int deeds = text.length() - text.replace(";", "").length();
        Check.due("refused: " + text, 0, deeds(x, text));
        Check.due("no fault: " + text, -1, x.fault());
        Check.due("how many were refused: " + text, deeds, x.told(7));
        Check.due("nothing changes: " + text, before, world(x));
        Check.due("a row more: " + text, rows + 1, x.count(2));
        Check.due("it is undone: " + text, rows, x.undo());
    }

    private static void claimDue(SorryPurses x, int k, int... want) {
        for (int what = 0; what < want.length; what++) {
            Check.due("claim " + k + ", " + what, want[what], x.claim(k, what));
        }
    }

    private static void days() {
        Check.about("days begin at 0; N days go by");
        SorryPurses x = town(STREET);
        Check.due("day", 0, x.told(3));
        done(x, "day 1;");
        Check.due("day", 1, x.told(3));
        done(x, "day 30;day 30;");
        Check.due("day", 61, x.told(3));
        for (int i = 0; i < 11; i++) {
            done(x, many("day 30;", 28));
        }
        Check.due("day", 61 + 11 * 840, x.told(3));
        Check.due("made so many days ago", 15, x.aged(9301));
        Check.due("one more", 0, x.aged(9302));
        done(x, many("day 30;", 28));
        Check.due("beyond 9,999 days", 15, x.aged(9999));
    }

    private static void slaps() {
        Check.about("slap: a true claim is made");
        SorryPurses x = town(STREET);
        done(x, "day 4;slap 2 0 999;slap 0 2 1;");
        claimDue(x, 4, 2, 0, 999, 4, 0, 0, 1, 0);
        claimDue(x, 5, 0, 2, 1, 4, 0, 0, 1, 0);
        Check.due("it may be told on the day it was made", 1, deeds(x, "tell 5;"));
    }

    private static void passes() {
        Check.about("pass: K's holder gives it to B, passed once more; not, if it is B's or gone; HOME, if on B");
        SorryPurses x = town(STREET);
        vain(x, "pass 0 1;");
        done(x, "pass 0 2;");
        claimDue(x, 0, 0, 2, 20, 0, 1, 0, 1, 0);
        vain(x, "pass 0 2;");
        done(x, "pass 0 1;");
        claimDue(x, 0, 0, 1, 20, 0, 2, 0, 1, 0);
        done(x, "pass 0 0;");
        claimDue(x, 0, 0, 0, 20, 0, 3, 0, 1, 3);
        Check.due("it stands no more", 3, x.told(2));
        Check.due("come home", 20, x.sums(4));
        vain(x, "pass 0 0;pass 0 1;pass 0 2;");
        done(x, "pass 2 1;pass 2 2;");
        claimDue(x, 2, 2, 2, 12, 0, 2, 0, 0, 3);
        Check.due("come home, false ones too", 32, x.sums(4));
    }

    private static void splits() {
        Check.about("split: K keeps N, a new claim has what is left; not, if it is not larger than N");
        SorryPurses x = town(STREET);
        vain(x, "split 0 20;");
        vain(x, "split 0 21;");
        vain(x, "split 0 999;");
        done(x, "split 0 19;");
        claimDue(x, 0, 0, 1, 19, 0, 0, 0, 1, 0);
        claimDue(x, 4, 0, 1, 1, 0, 0, 0, 1, 0);
        vain(x, "split 4 1;");
        done(x, "split 0 1;");
        claimDue(x, 0, 0, 1, 1, 0, 0, 0, 1, 0);
        claimDue(x, 5, 0, 1, 18, 0, 0, 0, 1, 0);
        Check.due("nothing was made in all", 72, x.sums(1));
        SorryPurses y = town(THREE + "wrong 0 1 999;wrong 0 1 1;");
        vain(y, "split 0 999;");
        done(y, "join 0 1;split 0 999;");
        claimDue(y, 2, 0, 1, 1);
    }

    private static void splitAlike() {
        Check.about("split: all else alike");
        SorryPurses x = town(THREE + "interest 50;false 0 1 100;");
        done(x, "day 3;tell 0;day 2;pass 0 2;tell 0;split 0 200;");
        claimDue(x, 0, 0, 2, 200, 0, 1, 2, 0, 0);
        claimDue(x, 1, 0, 2, 25, 0, 1, 2, 0, 0);
        vain(x, "tell 1;");
        done(x, "day 1;tell 1;tell 0;");
    }

    private static void joins() {
        Check.about("join: not, if one is gone, on another, held by another, one true and one false");
        SorryPurses x = town(THREE + "wrong 0 1 5;wrong 0 1 6;wrong 0 2 7;wrong 2 1 8;false 0 1 9;false 0 1 10;");
        vain(x, "join 0 2;join 2 0;");
        vain(x, "join 0 3;join 3 0;");
        vain(x, "join 0 4;join 4 0;");
        done(x, "join 1 0;");
        claimDue(x, 1, 0, 1, 11, 0, 0, 0, 1, 0);
        claimDue(x, 0, 0, 1, 5, 0, 0, 0, 1, 4);
        done(x, "join 4 5;");
        claimDue(x, 4, 0, 1, 19, 0, 0, 0, 0, 0);
        done(x, "pass 2 1;join 1 2;");
        claimDue(x, 1, 0, 1, 18, 0, 0, 0, 1, 0);
        Check.due("not, if gone", 0, deeds(x, "join 1 0;join 0 1;"));
        Check.due("nothing was made, nothing went", 45, x.sums(0));
        Check.due("nothing was made", 45, x.sums(1));
        Check.due("nothing was paid, burnt, come home", 0, x.sums(2) + x.sums(3) + x.sums(4));
        SorryPurses y = town(THREE + "interest 50;wrong 0 1 10;wrong 0 1 10;");
        done(y, "tell 1;day 2;slap 0 1 10;tell 0;join 0 1;");
        claimDue(y, 0, 0, 1, 30, 0, 0, 1, 1, 0);
        vain(y, "tell 0;");
        done(y, "join 2 0;");
        claimDue(y, 2, 0, 1, 40, 2, 0, 0, 1, 0);
        done(y, "tell 2;");
    }

    private static void joinsBeyond() {
        Check.about("join: not, if more than 9,999 would be");
        SorryPurses x = town(THREE + many("wrong 0 1 999;", 10) + "wrong 0 1 8;wrong 0 1 1;wrong 0 1 1;");
        for (int k = 1; k < 10; k++) {
            done(x, "join 0 " + k + ";");
        }
        Check.due("9,990", 9990, x.claim(0, 2));
        done(x, "join 11 12;join 10 11;");
        vain(x, "join 0 10;");
        vain(x, "join 10 0;");
        done(x, "split 10 9;");
        done(x, "join 10 0;");
        Check.due("9,999", 9999, x.claim(10, 2));
        vain(x, "join 10 13;");
        vain(x, "join 13 10;");
        done(x, "split 10 999;join 13 10;");
        Check.due("1,000", 1000, x.claim(13, 2));
        Check.due("what was left", 9000, x.claim(14, 2));
    }

    private static void tells() {
        Check.about("tell: K grows by its size times R by 100, cut, but 1 at least");
        int[][] cases = {{10, 20, 22}, {10, 19, 20}, {10, 10, 11}, {10, 9, 10}, {10, 1, 2}, {0, 1, 2}, {0, 999, 1000},
            {1, 199, 200}, {1, 200, 202}, {50, 1, 2}, {50, 2, 3}, {50, 3, 4}, {50, 999, 1498}, {33, 10, 13}};
        for (int[] c : cases) {
            SorryPurses x = town(THREE + "interest " + c[0] + ";wrong 0 1 " + c[1] + ";");
            done(x, "tell 0;");
            claimDue(x, 0, 0, 1, c[2], 0, 0, 1, 1, 0);
            Check.due("made in all", c[2], x.sums(1));
            Check.due("stands", c[2], x.sums(0));
        }
        SorryPurses x = town(THREE + "false 0 1 20;");
        done(x, "tell 0;");
        Check.due("a false one too, by 10 without", 22, x.claim(0, 2));
    }

    private static void tellsBeyond() {
        Check.about("tell: 9,999 at most");
        SorryPurses x = town(THREE + "interest 50;" + many("wrong 0 1 999;", 8));
        done(x, "join 0 1;join 0 2;join 0 3;join 0 4;join 0 5;join 0 6;split 7 333;join 0 8;day 1;");
        Check.due("7,659", 7659, x.claim(0, 2));
        Check.due("made", 7992, x.sums(1));
        done(x, "tell 0;");
        claimDue(x, 0, 0, 1, 9999, 0, 0, 1);
        Check.due("made only up to it", 7992 + 2340, x.sums(1));
        vain(x, "tell 0;");
        done(x, "day 1;tell 0;");
        claimDue(x, 0, 0, 1, 9999, 0, 0, 2);
        Check.due("nothing more was made", 7992 + 2340, x.sums(1));
        SorryPurses y = town(THREE + "interest 0;" + many("wrong 0 1 999;", 10) + "wrong 0 1 8;");
        for (int k = 1; k <= 10; k++) {
            done(y, "join 0 " + k + ";");
        }
        Check.due("9,998", 9998, y.claim(0, 2));
        done(y, "tell 0;day 1;");
        Check.due("9,999", 9999, y.claim(0, 2));
        done(y, "tell 0;");
        Check.due("9,999", 9999, y.claim(0, 2));
        Check.due("made", 9999, y.sums(1));
    }

    private static void tellsOnceADay() {
        Check.about("tell: not, if told on this day");
        SorryPurses x = town(STREET);
        done(x, "tell 0;");
        vain(x, "tell 0;");
        vain(x, "tell 0;tell 0;");
        Check.due("once of two", 1, deeds(x, "tell 1;tell 1;"));
        Check.due("told", 1, x.claim(1, 5));
        done(x, "pass 0 2;");
        vain(x, "tell 0;");
        done(x, "day 1;tell 0;");
        vain(x, "tell 0;");
        done(x, "day 30;tell 0;");
        Check.due("told", 3, x.claim(0, 5));
        Check.due("undone", 4, x.undo());
        done(x, "day 30;tell 0;");
    }

    private static void sorries() {
        Check.about("sorry: K is PAID, if MEANT is no less than the BITE; not else");
        SorryPurses x = town(STREET);
        x.bite(71);
        vain(x, "sorry 0;");
        x.bite(70);
        done(x, "sorry 0;");
        claimDue(x, 0, 0, 1, 20, 0, 0, 0, 1, 1);
        Check.due("paid", 20, x.sums(2));
        vain(x, "sorry 0;");
        vain(x, "sorry 2;");
        x.bite(50);
        done(x, "sorry 2;");
        Check.due("paid, false ones too", 32, x.sums(2));
        law(x, "0-1");
        x.bite(1);
        vain(x, "sorry 1;");
        x.bite(0);
        done(x, "sorry 1;");
        law(x, "999");
        x.bite(100);
        vain(x, "sorry 3;");
        x.bite(99);
        done(x, "sorry 3;");
        Check.due("none stands", 0, x.told(2));
        Check.due("paid", 72, x.sums(2));
    }

    private static void sorryAsItIsNow() {
        Check.about("sorry: by the law of now, as all is just then");
        SorryPurses x = town(STREET);
        law(x, "day*30+age");
        done(x, "day 1;slap 0 1 5;day 1;");
        vain(x, "sorry 9;");
        x.bite(62);
        vain(x, "sorry 4;");
        done(x, "sorry 0;");
        law(x, "held*30");
        x.bite(60);
        Check.due("two, then he holds one", 1, deeds(x, "sorry 3;sorry 4;"));
        Check.due("the first is paid", 1, x.claim(3, 7));
        Check.due("the second stands", 0, x.claim(4, 7));
    }

    private static void wronglies() {
        Check.about("wrongly: a true claim of 1 on A, held by K's holder; not, if K is on A, is A's, or is gone");
        SorryPurses x = town(STREET);
        vain(x, "wrongly 0 0;");
        vain(x, "wrongly 0 1;");
        done(x, "day 2;wrongly 0 2;");
        claimDue(x, 4, 2, 1, 1, 2, 0, 0, 1, 0);
        claimDue(x, 0, 0, 1, 20, 0, 0, 0, 1, 0);
        Check.due("made in all", 73, x.sums(1));
        vain(x, "wrongly 2 2;wrongly 2 0;");
        done(x, "wrongly 2 1;");
        claimDue(x, 5, 1, 0, 1, 2, 0, 0, 1, 0);
        done(x, "pass 0 2;wrongly 0 1;");
        claimDue(x, 6, 1, 2, 1, 2, 0, 0, 1, 0);
        done(x, "wrongly 0 1;");
        Check.due("as often as he likes", 8, x.told(1));
    }

    private static void forgives() {
        Check.about("forgive: K is BURNT and gone; not, if gone");
        SorryPurses x = town(STREET);
        done(x, "forgive 0;");
        claimDue(x, 0, 0, 1, 20, 0, 0, 0, 1, 2);
        Check.due("burnt", 20, x.sums(3));
        vain(x, "forgive 0;");
        done(x, "forgive 2;");
        Check.due("burnt, false ones too", 32, x.sums(3));
        Check.due("stands", 2, x.told(2));
    }

    private static void pays() {
        Check.about("pay: claims that he holds and that are not on B, N together; not, if there are none");
        SorryPurses x = town(STREET);
        vain(x, "pay 1 2 24;");
        vain(x, "pay 1 2 26;");
        vain(x, "pay 1 0 25;");
        vain(x, "pay 2 1 35;pay 0 1 20;");
        done(x, "pay 1 2 25;");
        claimDue(x, 0, 0, 2, 20, 0, 1, 0, 1, 0);
        claimDue(x, 3, 0, 2, 5, 0, 1, 0, 1, 0);
        vain(x, "pay 1 2 25;");
        done(x, "pay 2 0 35;");
        claimDue(x, 1, 1, 0, 35, 0, 1, 0, 1, 0);
        done(x, "pay 0 1 12;");
        claimDue(x, 2, 2, 1, 12, 0, 1, 0, 0, 0);
        done(x, "forgive 0;");
        Check.due("not with what is gone", 0, deeds(x, "pay 2 1 20;"));
        done(x, "pay 2 1 5;");
        SorryPurses y = town(THREE + "wrong 0 1 999;wrong 0 1 1;");
        done(y, "pay 1 2 999;pay 1 2 1;");
        vain(y, "pay 1 2 1;");
        SorryPurses none = town(THREE);
        vain(none, "pay 0 1 1;pay 0 1 999;");
    }

    private static void paysFewest() {
        Check.about("pay: the fewest");
        SorryPurses x = town(THREE + "wrong 0 1 1;wrong 0 1 2;wrong 0 1 3;wrong 0 1 6;");
        done(x, "pay 1 2 6;");
        claimDue(x, 3, 0, 2);
        done(x, "pay 1 2 6;");
        Check.due("then three", 4, x.person(2, 3));
        SorryPurses all = town(THREE + many("wrong 0 1 41;", 24));
        done(all, "slap 0 1 15;pay 1 2 999;");
        Check.due("all 25", 25, all.person(2, 3));
        SorryPurses forty = town(THREE + many("wrong 0 1 24;", 24));
        done(forty, many("slap 0 1 24;", 15));
        done(forty, "slap 0 1 63;");
        done(forty, "pay 1 2 999;");
        Check.due("all 40: 39 of 24, one of 63", 40, forty.person(2, 3));
    }

    private static void paysFirst() {
        Check.about("pay: of alike ones the first, the least numbers, one by one");
        SorryPurses x = town(THREE + "wrong 0 1 2;wrong 0 1 4;wrong 0 1 3;wrong 0 1 1;");
        done(x, "pay 1 2 5;");
        Check.due("0 and 2, not 1 and 3", 1, x.claim(0, 4) * x.claim(2, 4) * (1 - x.claim(1, 4)));
        SorryPurses y = town(THREE + "wrong 0 1 1;wrong 0 1 2;wrong 0 1 3;wrong 0 1 4;");
        done(y, "pay 1 2 5;");
        Check.due("0 and 3, not 1 and 2", 1, y.claim(0, 4) * y.claim(3, 4) * (1 - y.claim(1, 4)));
        SorryPurses z = town(THREE + many("wrong 0 1 7;", 24));
        done(z, many("slap 0 1 7;", 16));
        done(z, "pay 1 2 14;");
        Check.due("0 and 1 of forty", 3, z.pays(2, 1, 14));
        done(z, "pay 1 2 70;");
        Check.due("the next ten", 12, z.person(2, 3));
        Check.due("up to 11", 1, z.claim(11, 4));
        Check.due("not 12", 0, z.claim(12, 4));
    }

    /** PAID, BURNT, HOME and joined ones are gone for all deeds. */
    private static void goneIsGone() {
        Check.about("what is gone is gone");
        String[] all = {"pass K 2;pass K 1;pass K 0;split K 5;", "join K 4;join 5 K;tell K;",
            "sorry K;wrongly K 2;forgive K;"};
        for (int k = 0; k < 4; k++) {
            SorryPurses x = town(THREE + many("wrong 0 1 20;", 6) + "bite 0;");
            done(x, "sorry 0;forgive 1;pass 2 0;join 4 3;");
            Check.due("how it went", k + 1, x.claim(k, 7));
            for (String deed : all) {
                vain(x, deed.replace("K", "" + k));
            }
        }
        SorryPurses x = town(THREE + many("wrong 0 1 20;", 6) + "bite 0;");
        done(x, "sorry 0;forgive 1;pass 2 0;join 4 3;");
        vain(x, "pay 1 2 80;");
        done(x, "pay 1 2 60;");
        Check.due("two stand", 2, x.told(2));
    }

    private static void neverMade() {
        Check.about("a claim that was never made");
        for (int k : new int[] {4, 5, 23, 24, 38, 39}) {
            SorryPurses x = town(STREET);
            vain(x, "pass " + k + " 2;split " + k + " 1;join " + k + " 0;join 0 " + k + ";");
            vain(x, "tell " + k + ";sorry " + k + ";wrongly " + k + " 2;forgive " + k + ";");
        }
        SorryPurses none = new SorryPurses();
        vain(none, "tell 0;sorry 0;forgive 0;split 0 1;join 0 1;");
        Check.due("nobody to pass it to", -8, deeds(none, "pass 0 0;"));
        Check.due("its place", 7, none.fault());
    }

    /** 24 of the town and 15 that were made. */
    private static SorryPurses thirtyNine() {
        SorryPurses x = town(THREE + many("wrong 0 1 9;", 24));
        done(x, many("slap 0 1 9;", 15));
        Check.due("39", 39, x.told(1));
        return x;
    }

    private static void fortyClaims() {
        Check.about("40 claims at most: of what would be one more the deed is refused");
        for (String deed : new String[] {"slap 0 1 1;", "split 0 1;", "wrongly 0 2;"}) {
            SorryPurses x = thirtyNine();
            done(x, "slap 1 2 3;");
            claimDue(x, 39, 1, 2, 3, 0, 0, 0, 1, 0);
            vain(x, deed);
            SorryPurses y = thirtyNine();
            done(y, "split 0 4;forgive 0;forgive 1;");
            claimDue(y, 39, 0, 1, 5, 0, 0, 0, 1, 0);
            vain(y, deed.replace(" 0 ", " 2 "));
            SorryPurses z = thirtyNine();
            done(z, "wrongly 0 2;");
            claimDue(z, 39, 2, 1, 1, 0, 0, 0, 1, 0);
            vain(z, deed);
            Check.due("undone, one fits again", 1, z.undo());
            done(z, "slap 2 0 8;");
            claimDue(z, 39, 2, 0, 8, 0, 0, 0, 1, 0);
        }
        SorryPurses x = thirtyNine();
        done(x, "slap 1 2 3;");
        done(x, "day 1;tell 39;pass 39 0;sorry 38;join 2 3;pay 1 2 9;");
        claimDue(x, 39, 1, 0, 4, 0, 1, 1, 1, 0);
    }

    private static void oneByOne() {
        Check.about("deeds are done one by one");
        SorryPurses x = town(STREET);
        Check.due("what came ahead counts", 4, deeds(x, "slap 2 1 8;tell 4;pass 4 0;tell 4;join 2 4;split 4 3;sorry 5;"));
        Check.due("three are refused", 3, x.told(7));
        claimDue(x, 4, 2, 0, 3, 0, 1, 1, 1, 0);
        claimDue(x, 5, 2, 0, 6, 0, 1, 1, 1, 0);
    }

    private static void sumsOfAll() {
        Check.about("in all by now: stands, made, paid, burnt, come home");
        SorryPurses x = town(STREET);
        done(x, "tell 0;sorry 0;forgive 2;pass 1 1;slap 0 1 9;wrongly 3 2;split 4 4;join 3 6;");
        long[] want = {5 + 4 + 1 + 5, 72 + 2 + 9 + 1, 22, 12, 35};
        for (int what = 0; what < 5; what++) {
            Check.due("sums " + what, want[what], x.sums(what));
        }
        Check.due("what was made stands or went", x.sums(1), x.sums(0) + x.sums(2) + x.sums(3) + x.sums(4));
    }

    private static void refusedOfTheLatest() {
        Check.about("deeds that were refused of the latest row; 0 ahead of any, behind undo(), restore()");
        SorryPurses x = town(STREET);
        Check.due("ahead of any", 0, x.told(7));
        Check.due("no row", -1, x.undo());
        deeds(x, many("sorry 39;", 20));
        Check.due("twenty", 20, x.told(7));
        Check.due("a fault", -9, deeds(x, "sorry 39"));
        Check.due("it stays behind a fault", 20, x.told(7));
        Check.refused("no text", BAD, () -> x.deeds(1));
        Check.due("it stays behind an exception", 20, x.told(7));
        x.image();
        Check.due("it stays behind an image", 20, x.told(7));
        deeds(x, "sorry 39;sorry 38;day 1;");
        Check.due("two", 2, x.told(7));
        x.undo();
        Check.due("behind undo()", 0, x.told(7));
        deeds(x, "sorry 39;");
        Check.due("one", 1, x.told(7));
        x.restore();
        Check.due("behind restore()", 0, x.told(7));
        deeds(x, "sorry 39;day 1;");
        Check.due("one", 1, x.told(7));
        deeds(x, "");
        Check.due("an empty row", 0, x.told(7));
        deeds(x, many("tell 39;", 25));
        Check.due("25", 25, x.told(7));
        SorryPurses y = town(STREET);
        for (int i = 0; i < 20; i++) {
            deeds(y, "tell 39;");
        }
        Check.due("none is read", -20, deeds(y, "tell 39;tell 39;"));
        Check.due("it stays behind -20", 1, y.told(7));
    }

    private static void undone() {
        Check.about("the latest row of deeds that were done or refused is undone: how many rows are left");
        SorryPurses x = town(STREET);
        String[] rows = {"day 2;tell 0;slap 0 1 3;sorry 39;", "pass 0 2;split 1 30;join 3 4;sorry 0;forgive 1;", "",
            "wrongly 2 1;pay 1 2 5;pass 3 0;"};
        String[] worlds = new String[rows.length];
        for (int i = 0; i < rows.length; i++) {
            worlds[i] = world(x);
            deeds(x, rows[i]);
            Check.due("rows", i + 1, x.count(2));
        }
        for (int i = rows.length - 1; i >= 0; i--) {
            Check.due("rows are left", i, x.undo());
            Check.due("rows that can be undone", i, x.count(2));
            Check.due("all is as it was", worlds[i], world(x));
        }
        Check.due("there is none", -1, x.undo());
        done(x, "tell 0;");
        Check.due("it can be told again", 22, x.claim(0, 2));
    }

    private static void undoneToNothing() {
        Check.about("-1: there is no row");
        SorryPurses x = town(STREET);
        law(x, "5");
        book(x, "0 1;");
        x.bite(9);
        String before = all(x);
        Check.due("there is none", -1, x.undo());
        Check.due("all stays", before, all(x));
        done(x, "forgive 0;");
        law(x, "6");
        book(x, "0 1;1 1;");
        x.bite(8);
        Check.due("none is left", 0, x.undo());
        Check.due("the law is no deed", 6, x.would(0, 0, 0, 0, 0));
        Check.due("the book is no deed", 2, x.told(6));
        Check.due("the bite is no deed", 8, x.told(5));
        Check.due("a row that had a fault is none", -9, deeds(x, "day 1"));
        Check.due("there is none", -1, x.undo());
        Check.due("no call was refused", 0, x.status(0) + x.status(1) + x.status(2));
    }

    private static void twentyUndone() {
        Check.about("20 rows, all undone");
        SorryPurses x = town(STREET);
        for (int i = 1; i <= 20; i++) {
            done(x, "day " + i + ";");
        }
        Check.due("no more", -20, deeds(x, "day 1;"));
        for (int i = 19; i >= 0; i--) {
            Check.due("rows are left", i, x.undo());
            Check.due("the day", i * (i + 1) / 2, x.told(3));
        }
        Check.due("there is none", -1, x.undo());
    }

    private static void images() {
        Check.about("images: how many there are; -1: there are 3; restore: how many are left; -1: there is none");
        SorryPurses x = town(STREET);
        String before = all(x);
        Check.due("there is none", -1, x.restore());
        Check.due("all stays", before, all(x));
        for (int i = 1; i <= 3; i++) {
            Check.due("image", i, x.image());
            Check.due("images", i, x.count(0));
            done(x, "day " + i + ";");
        }
        before = all(x);
        Check.due("there are 3", -1, x.image());
        Check.due("there are 3", -1, x.image());
        Check.due("all stays", before, all(x));
        int[] days = {0, 1, 3};
        for (int i = 2; i >= 0; i--) {
            Check.due("are left", i, x.restore());
            Check.due("images", i, x.count(0));
            Check.due("the day", days[i], x.told(3));
            Check.due("rows", i, x.count(2));
        }
        Check.due("there is none", -1, x.restore());
        Check.due("the day", 0, x.told(3));
        Check.due("one again", 1, x.image());
    }

    private static void imagesKeep() {
        Check.about("an image of all");
        SorryPurses x = town(STREET);
        done(x, "day 2;tell 0;slap 2 1 9;");
        x.bite(44);
        String before = all(x);
        x.image();
        done(x, "day 3;tell 0;sorry 1;forgive 2;pass 3 0;split 0 3;wrongly 0 2;");
        x.bite(45);
        x.undo();
        x.undo();
        done(x, "pass 0 2;");
        Check.due("restore", 0, x.restore());
        Check.due("all is as it was", before, all(x));
        vain(x, "tell 0;");
        Check.due("the row can be undone", 0, x.undo());
        Check.due("size", 20, x.claim(0, 2));
        Check.due("the bite is no deed", 44, x.told(5));
        Check.due("none more", -1, x.undo());
    }

    private static void imagesDoNotKeep() {
        Check.about("all but the tape, the latest fault, the law, the book, the refused calls");
        SorryPurses x = town(STREET);
        law(x, "1");
        book(x, "0 1;");
        x.image();
        Check.refused("no claim", NO_SUCH, () -> x.meant(9));
        Check.refused("n", BAD, () -> x.aged(-1));
        law(x, "2");
        book(x, "0 1;0 2;");
        book(x, "    !");
        put(x, "0123456789012345678901234");
        Check.due("restore", 0, x.restore());
        Check.due("the law", 2, x.would(0, 0, 0, 0, 0));
        Check.due("the book", 2, x.told(6));
        Check.due("the fault", 4, x.fault());
        Check.due("the tape", 40, x.count(1));
        Check.due("refused", 1, x.status(0));
        Check.due("refused", 1, x.status(1));
        Check.due("an image leaves the tape", 1, x.image());
        Check.due("the tape", 40, x.count(1));
        Check.due("the fault", 4, x.fault());
    }

    private static void imageOfRows() {
        Check.about("rows of deeds that can be undone, too");
        SorryPurses x = town(STREET);
        for (int i = 0; i < 20; i++) {
            done(x, "day 1;");
        }
        Check.due("image", 1, x.image());
        for (int i = 0; i < 20; i++) {
            x.undo();
        }
        done(x, "day 30;");
        Check.due("image", 2, x.image());
        done(x, "day 30;");
        Check.due("the later one", 1, x.restore());
        Check.due("day", 30, x.told(3));
        Check.due("rows", 1, x.count(2));
        Check.due("the earlier one", 0, x.restore());
        Check.due("day", 20, x.told(3));
        Check.due("rows", 20, x.count(2));
        Check.due("no more", -20, deeds(x, ""));
        for (int i = 19; i >= 0; i--) {
            Check.due("undo", i, x.undo());
            Check.due("day", i, x.told(3));
        }
        Check.due("none", -1, x.undo());
        x.image();
        done(x, "day 7;");
        x.town(0);
        Check.due("a town has none", -1, x.restore());
        Check.due("a town has none", 1, x.image());
    }

    /** 3 images of 20 rows each, all that can be kept at one time. */
    private static void fullHouse() {
        Check.about("three images of twenty rows");
        SorryPurses x = town(THREE + many("wrong 0 1 9;", 24));
        for (int i = 0; i < 3; i++) {
            for (int left = x.count(2); left > 0; left--) {
                x.undo();
            }
            for (int row = 0; row < 20; row++) {
                deeds(x, "slap 0 1 " + (i + 1) + ";");
            }
            Check.due("40 claims", 40, x.told(1));
            Check.due("image", i + 1, x.image());
        }
        for (int i = 2; i >= 0; i--) {
            deeds(x, "forgive 39;");
            Check.due("restore", i, x.restore());
            Check.due("its own claims", i + 1, x.claim(39, 2));
            Check.due("they stand", 0, x.claim(39, 7));
            Check.due("its rows", 20, x.count(2));
            for (int row = 19; row >= 16; row--) {
                Check.due("the last rows were refused", row, x.undo());
                Check.due("40 claims", 40, x.told(1));
            }
            x.undo();
            Check.due("39 claims", 39, x.told(1));
        }
    }
}
