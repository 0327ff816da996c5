import java.util.Arrays;
import support.Check;

/** Each promise of the document by hand: ordinary inputs, the edges that it names, wrong inputs. */
public final class PromiseTest extends Play {
    public static void main(String[] args) {
        p1newObject();
        p2feed();
        p3town();
        p3townFaults();
        p4law();
        p4lawFaults();
        p5deeds();
        p5deedFaults();
        p5deedsOneByOne();
        p5limits();
        p5payDeed();
        p6book();
        p7fault();
        p8undo();
        p9told();
        p10claim();
        p11person();
        p12worth();
        p13sums();
        p14between();
        p15meant();
        p16would();
        p17open();
        p18pays();
        p19cover();
        p20ways();
        p21even();
        p22group();
        p23oneDay();
        p24says();
        p25lies();
        p26right();
        p27errors();
        p28best();
        p29bite();
        p30swell();
        p31burst();
        p32till();
        p33extreme();
        p34chosen();
        p35heard();
        p36payers();
        p37lacking();
        p38grown();
        p39square();
        p40aged();
        p41master();
        p42month();
        p43span();
        p44image();
        p45restore();
        p46status();
        p47count();
        Check.end();
    }

    private static void p1newObject() {
        Check.about("promise 1");
        SorryPurses x = new SorryPurses();
        Check.due("NONE", -1, SorryPurses.NONE);
        for (int what = 0; what < 8; what++) {
            int w = what;
            Check.due("told " + w, w == 4 ? 10 : w == 5 ? 30 : 0, () -> x.told(w));
        }
        Check.due("fault", -1, x.fault());
        Check.due("undo", -1, x.undo());
        Check.due("restore", -1, x.restore());
        Check.due("count 1", 0, x.count(1));
        Check.due("would by the law without", 95, x.would(1, 1, 9, 0, 0));
        Check.due("oneDay", 0, x.oneDay());
        Check.due("even", 0, x.even(0));
        Check.due("lies", 0, x.lies(0));
    }

    private static void p2feed() {
        Check.about("promise 2");
        SorryPurses x = new SorryPurses();
        for (int i = 1; i <= 30; i++) {
            Check.due("feed " + i, 20 * i, x.feed(0x62697465, 0x20313b20, 0x20202020, 0x20202020, 0x20202020));
        }
        Check.due("feed beyond", -1, x.feed(1, 2, 3, 4, 5));
        Check.due("bytes stay", 600, x.count(1));
        Check.due("highest byte first", 0, x.town(600));
        Check.due("the last bite", 1, x.told(5));
        Check.due("empty then", 0, x.count(1));
        Check.due("feed again", 20, x.feed(-1, -1, -1, -1, -1));
    }

    private static void p3town() {
        Check.about("promise 3");
        SorryPurses x = town(STREET);
        Check.due("people", 3, x.told(0));
        Check.due("claims", 4, x.told(1));
        Check.due("interest", 10, x.told(4));
        Check.due("bite", 60, x.told(5));
        law(x, "7");
        book(x, "0 1;");
        deeds(x, "day 3;sorry 39;");
        x.image();
        Check.refused("town beyond the tape", BAD, () -> x.town(1));
        Check.refused("town below 0", BAD, () -> x.town(-1));
        put(x, "person 3;person 10;");
        Check.refused("town beyond the tape", BAD, () -> x.town(21));
        Check.due("the tape stays", 20, x.count(1));
        Check.due("a fault", -8, x.town(19));
        Check.due("the tape is empty", 0, x.count(1));
        Check.due("all stays: people", 3, x.told(0));
        Check.due("all stays: day", 3, x.told(3));
        Check.due("all stays: book", 1, x.told(6));
        Check.due("all stays: refused", 1, x.told(7));
        Check.due("all stays: law", 7, x.would(0, 0, 0, 0, 0));
        Check.due("all stays: images", 1, x.count(0));
        Check.due("all stays: rows", 1, x.count(2));
        put(x, "person 3; person007 ;wrong 1 0 999;interest 0;interest 50;bite 100;bite 0;  ");
        Check.due("a new town", 1, x.town(75));
        Check.due("no fault", -1, x.fault());
        Check.due("people", 2, x.told(0));
        Check.due("zeros ahead", 7, x.person(1, 0));
        Check.due("day", 0, x.told(3));
        Check.due("the last interest counts", 50, x.told(4));
        Check.due("the last bite counts", 0, x.told(5));
        Check.due("no book", 0, x.told(6));
        Check.due("no refused", 0, x.told(7));
        Check.due("no law", 50, x.would(0, 0, 0, 0, 0));
        Check.due("no images", 0, x.count(0));
        Check.due("no rows", 0, x.count(2));
        Check.due("a town without clauses", 0, x.town(0));
        Check.due("nobody", 0, x.told(0));
        Check.due("interest without", 10, x.told(4));
        Check.due("bite without", 30, x.told(5));
        put(x, "   ");
        Check.due("blanks alone", 0, x.town(3));
        Check.due("many blanks", 1, town("person1;person2;wrong   0  1   9  ;").told(1));
    }

    private static void townFault(int kind, int place, String text) {
        SorryPurses x = new SorryPurses();
        Check.due("town " + text, kind - 10, x.town(put(x, text)));
        Check.due("fault of " + text, place, x.fault());
    }

    private static void p3townFaults() {
        Check.about("promise 3, faults");
        townFault(1, 0, "people 1;");
        townFault(1, 0, ";");
        townFault(1, 2, "  Person 1;");
        townFault(1, 0, "persons 1;");
        townFault(1, 8, "person 1");
        townFault(1, 10, "person 1  ");
        townFault(1, 6, "person");
        townFault(1, 7, "person x;");
        townFault(1, 9, "person 1 2;");
        townFault(1, 7, "person -1;");
        townFault(1, 9, "person 1;;");
        townFault(1, 7, "person \u00ff;");
        townFault(2, 7, "person 10;");
        townFault(2, 7, "person 99999999999999999999;");
        townFault(2, 6, "wrong 0 1 5;");
        townFault(2, 17, "person 1;wrong 0 1 5;");
        townFault(2, 15, "person 1;wrong 1 0 5;");
        townFault(2, 26, "person 1;person 1;wrong 0 0 5;");
        townFault(2, 28, "person 1;person 1;wrong 0 1 0;");
        townFault(2, 28, "person 1;person 1;false 0 1 1000;");
        townFault(2, 9, "interest 51;");
        townFault(2, 5, "bite 101;");
        townFault(3, 72, many("person 1;", 9));
        townFault(1, 72, many("person 1;", 8) + "purson 1;");
        townFault(3, 18 + 24 * 12, "person 1;person 1;" + many("wrong 0 1 5;", 24) + "false 0 1 5;");
        townFault(3, 60 * 7, many("bite 1;", 61));
        townFault(1, 60 * 7, many("bite 1;", 60) + "bites 1;");
        SorryPurses x = new SorryPurses();
        Check.due("60 clauses", 0, x.town(put(x, many("bite 1;", 60))));
        Check.due("24 claims", 24, x.town(put(x, "person 1;person 1;" + many("wrong 0 1 5;", 24))));
        Check.due("8 people", 0, x.town(put(x, many("person 1;", 8))));
        Check.due("8 people", 8, x.told(0));
    }

    private static void p4law() {
        Check.about("promise 4");
        SorryPurses x = town(STREET);
        Check.due("a law", 1, law(x, "size / 3 * 2 - (1 + 2) * 2 "));
        Check.due("from the left", 24, x.would(47, 0, 0, 0, 0));
        law(x, "10-3-2");
        Check.due("from the left", 5, x.would(0, 0, 0, 0, 0));
        law(x, "50+7/0");
        Check.due("by 0", 50, x.would(0, 0, 0, 0, 0));
        law(x, "50+(0-7)/2");
        Check.due("cuts", 47, x.would(0, 0, 0, 0, 0));
        law(x, "most[least[size,age],3]+heat*temper");
        Check.due("least, most", 46, x.would(9, 4, 6, 7, 0));
        Check.due("least, most", 3, x.would(0, 4, 0, 0, 0));
        law(x, "size*size*size");
        Check.due("99 at most", 99, x.would(1000, 0, 0, 0, 0));
        Check.due("it wraps below 0, and is 0 at least", 0, x.would(2000, 0, 0, 0, 0));
        law(x, "512*512*512*16/(0-1)");
        Check.due("the least number by -1 stays itself", 0, x.would(0, 0, 0, 0, 0));
        law(x, "told+passed+day+held");
        Check.due("would has no passed, day, held", 5, x.would(9, 9, 9, 9, 5));
        deeds(x, "day 4;tell 0;pass 3 2;");
        Check.due("told, passed, day, held", 1 + 0 + 4 + 1, x.meant(0));
        Check.due("told, passed, day, held", 0 + 1 + 4 + 2, x.meant(3));
        Check.refused("law beyond the tape", BAD, () -> x.law(1));
        put(x, many(" ", 160));
        Check.refused("law beyond 150", BAD, () -> x.law(151));
        Check.refused("law below 0", BAD, () -> x.law(-1));
        Check.due("the tape stays", 160, x.count(1));
        Check.due("blanks alone", -9, x.law(150));
        Check.due("at the length", 150, x.fault());
        Check.due("the law stays", 6, x.meant(0));
    }

    private static void lawFault(int kind, int place, String text) {
        SorryPurses x = new SorryPurses();
        Check.due("law " + text, kind - 10, law(x, text));
        Check.due("fault of " + text, place, x.fault());
    }

    private static void p4lawFaults() {
        Check.about("promise 4, faults");
        lawFault(1, 0, "");
        lawFault(1, 0, "sizes");
        lawFault(1, 2, "1 2");
        lawFault(1, 3, "1 +");
        lawFault(1, 5, "1 +  ");
        lawFault(1, 0, "-1");
        lawFault(1, 2, "1+*2");
        lawFault(1, 1, "1;");
        lawFault(1, 1, "1)");
        lawFault(1, 2, "(1");
        lawFault(1, 2, "(1]");
        lawFault(1, 4, "size2");
        lawFault(1, 7, "most [1]");
        lawFault(1, 5, "most (1,2)");
        lawFault(1, 8, "most[1,2)");
        lawFault(1, 8, "most[1,2");
        lawFault(1, 8, "most[1,2,3]");
        lawFault(2, 0, "1000");
        lawFault(2, 2, "1+99999999999");
        lawFault(3, 6, "(((((((1)))))))");
        lawFault(3, 6, "((((((least[1,2]))))))");
        lawFault(3, 6, "((((((most");
        lawFault(1, 6, "((((((mist");
        lawFault(3, 18, "(least[1,(((least[most[1,2],3])))])");
        SorryPurses x = new SorryPurses();
        Check.due("six open", 1, law(x, "((((((1))))))"));
        Check.due("six at one time", 1, law(x, "((((((1))))))+((((((1))))))*least[(((((1))))),(((((2)))))]"));
    }

    private static void p5deeds() {
        Check.about("promise 5");
        SorryPurses x = town(STREET);
        Check.due("all done", 3, deeds(x, "day 1; tell 0 ;tell1;"));
        Check.due("one is refused", 1, deeds(x, "tell 0;day 30;"));
        Check.due("refused", 1, x.told(7));
        Check.due("a fault", -8, deeds(x, "day 2;day 31;"));
        Check.due("none is done", 31, x.told(3));
        Check.due("refused stays", 1, x.told(7));
        Check.due("no row", 2, x.count(2));
        Check.refused("beyond the tape", BAD, () -> x.deeds(1));
        Check.refused("below 0", BAD, () -> x.deeds(-1));
        put(x, many(" ", 220));
        Check.refused("beyond 200", BAD, () -> x.deeds(201));
        Check.due("the tape stays", 220, x.count(1));
        Check.due("blanks alone are a row", 0, x.deeds(200));
        Check.due("refused", 0, x.told(7));
        for (int i = 3; i < 20; i++) {
            x.deeds(0);
        }
        Check.due("20 rows", 20, x.count(2));
        deeds(x, "nonsense");
        Check.due("no fault, for nothing is read", -1, x.fault());
        put(x, "nonsense");
        Check.refused("the exception comes first", BAD, () -> x.deeds(21));
        Check.due("20 rows are there", -20, x.deeds(8));
        Check.due("the tape is empty", 0, x.count(1));
        Check.due("undone", 19, x.undo());
        Check.due("one more fits", 1, deeds(x, "day 1;"));
    }

    private static void deedFault(int kind, int place, String text) {
        SorryPurses x = town(STREET);
        Check.due("deeds " + text, kind - 10, deeds(x, text));
        Check.due("fault of " + text, place, x.fault());
    }

    private static void p5deedFaults() {
        Check.about("promise 5, faults");
        deedFault(1, 0, "days 1;");
        deedFault(1, 3, "day");
        deedFault(1, 5, "day 1");
        deedFault(1, 6, "day 1;1;");
        deedFault(2, 4, "day 0;");
        deedFault(2, 4, "day 31;");
        deedFault(2, 5, "slap 3 0 1;");
        deedFault(2, 7, "slap 0 3 1;");
        deedFault(2, 7, "slap 0 0 1;");
        deedFault(2, 9, "slap 0 1 0;");
        deedFault(2, 9, "slap 0 1 1000;");
        deedFault(2, 5, "pass 40 1;");
        deedFault(2, 7, "pass 0 3;");
        deedFault(2, 8, "split 0 0;");
        deedFault(2, 8, "split 0 1000;");
        deedFault(2, 7, "join 3 3;");
        deedFault(2, 7, "join 3 40;");
        deedFault(2, 5, "tell 40;");
        deedFault(2, 6, "sorry 40;");
        deedFault(2, 10, "wrongly 0 3;");
        deedFault(2, 8, "forgive 40;");
        deedFault(2, 6, "pay 1 1 5;");
        deedFault(2, 8, "pay 1 0 1000;");
        deedFault(3, 180, many("day 1;", 31));
        deedFault(1, 180, many("day 1;", 30) + "dax 1;");
        SorryPurses x = town(STREET);
        Check.due("30 deeds", 30, deeds(x, many("day 1;", 30)));
        Check.due("numbers up to 39 can stand", 0, deeds(x, "join 3 39;join 39 3;tell 39;pass 39 2;wrongly 39 2;"));
        Check.due("no fault", -1, x.fault());
        Check.due("all are refused", 5, x.told(7));
    }

    private static void p5deedsOneByOne() {
        Check.about("promise 5, one by one");
        SorryPurses x = town(STREET);
        Check.due("slap", 1, deeds(x, "slap 2 1 7;"));
        Check.due("slap is true", 1, x.claim(4, 6));
        Check.due("pass: not if it is his", 0, deeds(x, "pass 0 1;"));
        Check.due("pass", 1, deeds(x, "pass 0 2;"));
        Check.due("passed", 1, x.claim(0, 4));
        Check.due("pass home", 1, deeds(x, "pass 0 0;"));
        Check.due("home", 3, x.claim(0, 7));
        Check.due("who held it last", 0, x.claim(0, 1));
        Check.due("passed", 2, x.claim(0, 4));
        Check.due("gone", 0, deeds(x, "pass 0 2;tell 0;sorry 0;forgive 0;split 0 1;wrongly 0 2;join 3 0;join 0 3;"));
        Check.due("not made yet", 0, deeds(x, "pass 9 2;tell 9;sorry 9;forgive 9;split 9 1;wrongly 9 2;join 3 9;"));
        Check.due("split: not larger", 0, deeds(x, "split 1 35;"));
        Check.due("split", 2, deeds(x, "tell 1;split 1 34;"));
        Check.due("what is left", 4, x.claim(5, 2));
        Check.due("alike: told", 1, x.claim(5, 5));
        Check.due("alike: told on this day", 0, deeds(x, "tell 5;"));
        Check.due("join", 1, deeds(x, "join 5 1;"));
        Check.due("joined size", 38, x.claim(5, 2));
        Check.due("joined", 4, x.claim(1, 7));
        Check.due("told twice on one day", 1, deeds(x, "tell 4;tell 4;"));
        Check.due("cut, but 1 at least", 8, x.claim(4, 2));
        Check.due("sorry below the bite", 0, deeds(x, "sorry 4;"));
        x.bite(49);
        Check.due("sorry at the bite", 1, deeds(x, "sorry 4;"));
        Check.due("paid", 1, x.claim(4, 7));
        Check.due("wrongly: it is on him, or his own", 0, deeds(x, "wrongly 3 0;wrongly 3 1;"));
        Check.due("wrongly", 1, deeds(x, "wrongly 3 2;"));
        Check.due("wrongly: on", 2, x.claim(6, 0));
        Check.due("wrongly: held", 1, x.claim(6, 1));
        Check.due("wrongly: size", 1, x.claim(6, 2));
        Check.due("forgive", 1, deeds(x, "forgive 6;"));
        Check.due("burnt", 2, x.claim(6, 7));
        Check.due("join: one true, one false", 0, deeds(town(THREE + "wrong 0 1 5;false 0 1 5;"), "join 0 1;"));
        Check.due("join: held by another", 0, deeds(town(THREE + "wrong 0 1 5;wrong 0 2 5;"), "join 0 1;"));
        Check.due("join: on another", 0, deeds(town(THREE + "wrong 0 1 5;wrong 2 1 5;"), "join 0 1;"));
    }

    private static void p5limits() {
        Check.about("promise 5, limits");
        SorryPurses x = town(THREE + many("wrong 0 1 999;", 11) + "interest 50;");
        Check.due("join up to 9,999", 12, deeds(x, "join 0 1;join 0 2;join 0 3;join 0 4;join 0 5;join 0 6;join 0 7;"
                + "join 0 8;join 0 9;join 0 10;slap 0 1 9;join 0 11;slap 0 1 1;join 0 12;"));
        Check.due("9,999", 9999, x.claim(0, 2));
        Check.due("told, but no larger", 1, deeds(x, "tell 0;"));
        Check.due("9,999", 9999, x.claim(0, 2));
        Check.due("made in all", 11 * 999 + 10, x.sums(1));
        SorryPurses y = town(THREE + many("wrong 0 1 9;", 24));
        Check.due("40 claims", 16, deeds(y, many("slap 0 1 9;", 17)));
        Check.due("one is refused", 1, y.told(7));
        Check.due("nothing is made beyond", 0, deeds(y, "split 0 1;wrongly 0 2;slap 0 1 1;"));
        Check.due("all else is done", 3, deeds(y, "tell 39;pass 39 2;forgive 39;"));
    }

    private static void p5payDeed() {
        Check.about("promise 5, pay");
        SorryPurses x = town(THREE + "wrong 0 1 5;wrong 0 1 3;wrong 0 1 2;wrong 2 1 5;wrong 0 1 4;");
        Check.due("one is fewest", 1, deeds(x, "pay 1 2 5;"));
        Check.due("it is passed", 2, x.claim(0, 1));
        Check.due("it is passed", 1, x.claim(0, 4));
        Check.due("two then", 1, deeds(x, "pay 1 2 5;"));
        Check.due("both are passed", 2, x.claim(1, 1));
        Check.due("both are passed", 2, x.claim(2, 1));
        Check.due("none then, for one is on him", 0, deeds(x, "pay 1 2 5;"));
        Check.due("to another", 1, deeds(x, "pay 1 0 5;"));
        Check.due("to another", 0, x.claim(3, 1));
        SorryPurses y = town(THREE + "wrong 0 1 2;wrong 0 1 4;wrong 0 1 3;wrong 0 1 1;");
        Check.due("of alike ones the first", 1, deeds(y, "pay 1 2 5;"));
        Check.due("claim 0", 2, y.claim(0, 1));
        Check.due("claim 1", 1, y.claim(1, 1));
        Check.due("claim 2", 2, y.claim(2, 1));
    }

    private static void bookFault(int kind, int place, String text) {
        SorryPurses x = town(STREET);
        book(x, "0 1;");
        Check.due("book " + text, kind - 10, book(x, text));
        Check.due("fault of " + text, place, x.fault());
        Check.due("the book stays", 1, x.told(6));
    }

    private static void p6book() {
        Check.about("promise 6");
        SorryPurses x = town(STREET);
        Check.due("lines", 3, book(x, "0 - 25;2 35 ; 1-0;"));
        Check.due("lines", 3, x.told(6));
        Check.due("no lines", 0, book(x, " "));
        Check.due("8 lines", 8, book(x, many("2 9999;", 8)));
        bookFault(2, 0, "3 1;");
        bookFault(2, 2, "0 10000;");
        bookFault(2, 3, "0 -10000;");
        bookFault(1, 4, "0 - - 1;");
        bookFault(1, 3, "0 1");
        bookFault(1, 1, "0;");
        bookFault(1, 0, "-1 1;");
        bookFault(1, 0, "x 1;");
        bookFault(3, 32, many("0 1;", 9));
        bookFault(2, 32, many("0 1;", 8) + "3 1;");
        bookFault(1, 32, many("0 1;", 8) + ";");
        Check.refused("beyond the tape", BAD, () -> x.book(1));
        put(x, many(" ", 160));
        Check.refused("beyond 150", BAD, () -> x.book(151));
        Check.refused("below 0", BAD, () -> x.book(-1));
        Check.due("the tape stays", 160, x.count(1));
        Check.due("the book stays", 8, x.told(6));
        Check.due("150", 0, x.book(150));
    }

    private static void p7fault() {
        Check.about("promise 7");
        SorryPurses x = town(STREET);
        Check.due("none", -1, x.fault());
        law(x, "1+");
        Check.due("of the law", 2, x.fault());
        Check.refused("no text", BAD, () -> x.town(1));
        Check.due("it stays", 2, x.fault());
        deeds(x, "day 1;tell 40;");
        Check.due("of deeds", 11, x.fault());
        x.image();
        book(x, "7 1;");
        Check.due("of the book", 0, x.fault());
        x.restore();
        Check.due("no image keeps it", 0, x.fault());
        law(x, "1");
        Check.due("none", -1, x.fault());
    }

    private static void p8undo() {
        Check.about("promise 8");
        SorryPurses x = town(STREET);
        deeds(x, "day 2;tell 0;forgive 1;slap 0 1 9;");
        x.bite(77);
        deeds(x, "sorry 39;");
        Check.due("refused", 1, x.told(7));
        Check.due("undo", 1, x.undo());
        Check.due("refused", 0, x.told(7));
        Check.due("still done", 1, x.claim(0, 5));
        Check.due("undo", 0, x.undo());
        Check.due("claims", 4, x.told(1));
        Check.due("day", 0, x.told(3));
        Check.due("told", 0, x.claim(0, 5));
        Check.due("size", 20, x.claim(0, 2));
        Check.due("stands", 0, x.claim(1, 7));
        Check.due("sums", 72, x.sums(1));
        Check.due("sums", 0, x.sums(3));
        Check.due("the bite is no deed", 77, x.told(5));
        Check.due("none is left", -1, x.undo());
        Check.due("it can be told on this day again", 1, deeds(x, "tell 0;"));
    }

    private static void p9told() {
        Check.about("promise 9");
        SorryPurses x = town(STREET);
        book(x, "0 1;1 1;");
        deeds(x, "day 3;forgive 1;sorry 2;slap 0 1 1;");
        long[] want = {3, 5, 4, 3, 10, 60, 2, 1};
        for (int what = 0; what < 8; what++) {
            int w = what;
            Check.due("told " + w, want[w], () -> x.told(w));
        }
        Check.refused("told -1", BAD, () -> x.told(-1));
        Check.refused("told 8", BAD, () -> x.told(8));
    }

    private static void p10claim() {
        Check.about("promise 10");
        SorryPurses x = town(STREET);
        deeds(x, "day 3;slap 2 1 50;pass 4 0;tell 4;");
        long[] want = {2, 0, 55, 3, 1, 1, 1, 0};
        for (int what = 0; what < 8; what++) {
            int w = what;
            Check.due("claim 4 " + w, want[w], () -> x.claim(4, w));
        }
        Check.due("false", 0, x.claim(2, 6));
        Check.refused("claim 5", NO_SUCH, () -> x.claim(5, 0));
        Check.refused("claim -1", NO_SUCH, () -> x.claim(-1, 0));
        Check.refused("the claim comes first", NO_SUCH, () -> x.claim(5, 8));
        Check.refused("what 8", BAD, () -> x.claim(4, 8));
        Check.refused("what -1", BAD, () -> x.claim(4, -1));
    }

    private static void p11person() {
        Check.about("promise 11");
        SorryPurses x = town(STREET);
        long[] want = {7, 25, 35, 2, 1};
        for (int what = 0; what < 5; what++) {
            int w = what;
            Check.due("person 1 " + w, want[w], () -> x.person(1, w));
        }
        deeds(x, "forgive 0;");
        Check.due("he holds it no more", 5, x.person(1, 1));
        Check.due("he holds it no more", 1, x.person(1, 3));
        Check.due("it is on him no more", 5, x.person(0, 2));
        Check.due("it is on him no more", 1, x.person(0, 4));
        Check.refused("person 3", NO_SUCH, () -> x.person(3, 9));
        Check.refused("person -1", NO_SUCH, () -> x.person(-1, 0));
        Check.refused("what 5", BAD, () -> x.person(1, 5));
        Check.refused("what -1", BAD, () -> x.person(1, -1));
    }

    private static void p12worth() {
        Check.about("promise 12");
        SorryPurses x = town(STREET);
        Check.due("worth", -13, x.worth(0, 0));
        Check.due("truly", -25, x.worth(0, 1));
        Check.due("worth", 23, x.worth(2, 0));
        Check.due("truly", 35, x.worth(2, 1));
        deeds(x, "forgive 1;");
        Check.due("of what stands", -12, x.worth(2, 0));
        Check.refused("person 3", NO_SUCH, () -> x.worth(3, 2));
        Check.refused("what 2", BAD, () -> x.worth(0, 2));
        Check.refused("what -1", BAD, () -> x.worth(0, -1));
    }

    private static void p13sums() {
        Check.about("promise 13");
        SorryPurses x = town(STREET);
        deeds(x, "tell 1;sorry 0;forgive 2;pass 1 1;slap 0 1 9;wrongly 3 2;split 3 2;join 3 6;");
        Check.due("all is done", 0, x.told(7));
        long[] want = {15, 72 + 3 + 9 + 1, 20, 12, 38};
        for (int what = 0; what < 5; what++) {
            int w = what;
            Check.due("sums " + w, want[w], () -> x.sums(w));
        }
        Check.refused("what 5", BAD, () -> x.sums(5));
        Check.refused("what -1", BAD, () -> x.sums(-1));
    }

    private static void p14between() {
        Check.about("promise 14");
        SorryPurses x = town(STREET);
        Check.due("on 0, held by 1", 25, x.between(0, 1));
        Check.due("on 1, held by 0", 0, x.between(1, 0));
        Check.due("on himself", 0, x.between(1, 1));
        deeds(x, "forgive 3;");
        Check.due("what stands", 20, x.between(0, 1));
        Check.refused("no other", NO_SUCH, () -> x.between(0, 3));
        Check.refused("no one", NO_SUCH, () -> x.between(-1, 0));
    }

    private static void p15meant() {
        Check.about("promise 15");
        SorryPurses x = town(STREET);
        Check.due("by the law without", 70, x.meant(0));
        Check.due("by the law without", 85, x.meant(1));
        deeds(x, "tell 1;day 1;tell 1;sorry 1;");
        Check.due("as it was", 83, x.meant(1));
        law(x, "size+age*100");
        Check.due("size", 99, x.meant(1));
        law(x, "held*10+passed");
        Check.due("held", 20, x.meant(0));
        deeds(x, "forgive 3;pass 0 2;");
        Check.due("held", 11, x.meant(0));
        law(x, "temper*10+heat");
        Check.due("temper, heat", 40, x.meant(0));
        Check.due("temper, heat", 4, x.meant(2));
        law(x, "day*10+age");
        deeds(x, "day 2;slap 0 1 1;day 2;");
        Check.due("day, age", 52, x.meant(4));
        Check.refused("claim 5", NO_SUCH, () -> x.meant(5));
        Check.refused("claim -1", NO_SUCH, () -> x.meant(-1));
    }

    private static void p16would() {
        Check.about("promise 16");
        SorryPurses x = new SorryPurses();
        Check.due("the law without", 67, x.would(0, 0, 4, 0, 3));
        Check.due("all at most", 0, x.would(9999, 999, 9, 9, 999));
        law(x, "size/999+age/100+temper+heat+told/100");
        Check.due("all at most", 10 + 9 + 9 + 9 + 9, x.would(9999, 999, 9, 9, 999));
        Check.refused("size", BAD, () -> x.would(10000, 0, 0, 0, 0));
        Check.refused("size", BAD, () -> x.would(-1, 0, 0, 0, 0));
        Check.refused("age", BAD, () -> x.would(0, 1000, 0, 0, 0));
        Check.refused("age", BAD, () -> x.would(0, -1, 0, 0, 0));
        Check.refused("temper", BAD, () -> x.would(0, 0, 10, 0, 0));
        Check.refused("temper", BAD, () -> x.would(0, 0, -1, 0, 0));
        Check.refused("heat", BAD, () -> x.would(0, 0, 0, 10, 0));
        Check.refused("heat", BAD, () -> x.would(0, 0, 0, -1, 0));
        Check.refused("told", BAD, () -> x.would(0, 0, 0, 0, 1000));
        Check.refused("told", BAD, () -> x.would(0, 0, 0, 0, -1));
    }

    private static void p17open() {
        Check.about("promise 17");
        SorryPurses x = town(STREET);
        Check.due("open", 11, x.open());
        x.bite(70);
        Check.due("at the bite", 11, x.open());
        x.bite(71);
        Check.due("beyond", 2, x.open());
        deeds(x, "forgive 1;");
        Check.due("what stands", 0, x.open());
        SorryPurses y = town(THREE + many("wrong 0 1 9;", 24));
        deeds(y, many("slap 0 1 9;", 16));
        Check.due("40 bits", (1L << 40) - 1, y.open());
    }

    private static void p18pays() {
        Check.about("promise 18");
        SorryPurses x = town(STREET);
        Check.due("both", 9, x.pays(1, 2, 25));
        Check.due("they are on him", 0, x.pays(1, 0, 25));
        Check.due("one", 8, x.pays(1, 2, 5));
        Check.due("none", 0, x.pays(1, 2, 6));
        Check.due("nothing stays changed", 1, x.claim(0, 1));
        Check.due("the fewest", 16, town(THREE + "wrong 0 1 1;wrong 0 1 2;wrong 0 1 3;wrong 0 1 9;wrong 0 1 6;")
                .pays(1, 2, 6));
        Check.due("the first", 5, town(THREE + "wrong 0 1 2;wrong 0 1 4;wrong 0 1 3;wrong 0 1 1;").pays(1, 2, 5));
        Check.due("the first", 9, town(THREE + "wrong 0 1 1;wrong 0 1 2;wrong 0 1 3;wrong 0 1 4;").pays(1, 2, 5));
        Check.due("of one size", 7, town(THREE + many("wrong 0 1 2;", 9)).pays(1, 2, 6));
        Check.due("999", 1, town(THREE + "wrong 0 1 999;").pays(1, 2, 999));
        Check.refused("one person", BAD, () -> x.pays(1, 1, 5));
        Check.refused("n 0", BAD, () -> x.pays(1, 2, 0));
        Check.refused("n 1000", BAD, () -> x.pays(1, 2, 1000));
        Check.refused("no person", NO_SUCH, () -> x.pays(3, 3, 0));
        Check.refused("no other", NO_SUCH, () -> x.pays(0, 3, 0));
    }

    /** Person 1 holds two claims of 9,998. */
    private static SorryPurses twoLarge() {
        SorryPurses x = town(THREE + many("wrong 0 1 999;", 20) + many("wrong 0 1 8;", 2));
        StringBuilder first = new StringBuilder("join 0 20;");
        StringBuilder second = new StringBuilder("join 10 21;");
        for (int i = 1; i < 10; i++) {
            first.append("join 0 ").append(i).append(';');
            second.append("join 10 ").append(10 + i).append(';');
        }
        Check.due("joined", 20, deeds(x, first.toString()) + deeds(x, second.toString()));
        return x;
    }

    private static void p19cover() {
        Check.about("promise 19");
        SorryPurses x = town(STREET);
        Check.due("cover", 20, x.cover(1, 6));
        Check.due("cover", 25, x.cover(1, 21));
        Check.due("as it is", 5, x.cover(1, 5));
        Check.due("not as much", -1, x.cover(1, 26));
        Check.due("nothing", 0, x.cover(0, 0));
        SorryPurses y = town(THREE + many("wrong 0 1 999;", 11));
        Check.due("beyond 9,999", 10989, y.cover(1, 9999));
        Check.due("below 9,999", 9990, y.cover(1, 9990));
        SorryPurses z = twoLarge();
        Check.due("far beyond", 19996, z.cover(1, 9999));
        Check.due("one is enough", 9998, z.cover(1, 9998));
        Check.refused("n", BAD, () -> x.cover(1, 10000));
        Check.refused("n", BAD, () -> x.cover(1, -1));
        Check.refused("no person", NO_SUCH, () -> x.cover(3, -1));
    }

    private static void p20ways() {
        Check.about("promise 20");
        SorryPurses x = town(STREET);
        Check.due("5, 20, 25", 3, x.ways(1));
        Check.due("one", 1, x.ways(2));
        Check.due("up to 9,999", 10, town(THREE + many("wrong 0 1 999;", 11)).ways(1));
        Check.due("9,999 too", 21, town(THREE + many("wrong 0 1 999;", 10) + "wrong 0 1 9;").ways(1));
        Check.due("sums, not sets", 4, town(THREE + "wrong 0 1 1;wrong 0 1 1;wrong 0 1 2;").ways(1));
        Check.due("none", 0, town(THREE).ways(0));
        Check.due("none beyond", 1, twoLarge().ways(1));
        Check.refused("no person", NO_SUCH, () -> x.ways(3));
        Check.refused("no person", NO_SUCH, () -> x.ways(-1));
    }

    private static void p21even() {
        Check.about("promise 21");
        SorryPurses x = town(STREET);
        Check.due("apologies", 2, x.even(0));
        Check.due("groups", 1, x.even(1));
        SorryPurses y = town(FOUR + "wrong 0 1 5;wrong 2 3 5;");
        Check.due("apologies", 2, y.even(0));
        Check.due("groups", 2, y.even(1));
        SorryPurses z = town(FOUR + "wrong 0 1 5;wrong 1 0 5;");
        Check.due("all are even", 0, z.even(0));
        Check.due("no groups", 0, z.even(1));
        Check.refused("what 2", BAD, () -> x.even(2));
        Check.refused("what -1", BAD, () -> x.even(-1));
    }

    private static void p22group() {
        Check.about("promise 22");
        SorryPurses x = town(FOUR + "wrong 0 1 5;wrong 2 3 5;");
        Check.due("the least bits first", 3, x.group(0));
        Check.due("the next", 12, x.group(1));
        Check.due("none such", -1, x.group(2));
        Check.due("none such", -1, x.group(-1));
        // worths 3, 2, -5, -3, 3: 0 1 2 and 3 4, or 0 3 and 1 2 4; 7 is less than 9
        SorryPurses y = town(FOUR + "person 1;person 1;wrong 2 0 3;wrong 2 1 2;wrong 3 4 3;");
        Check.due("the least bits, not the fewest", 7, y.group(0));
        Check.due("what is left", 24, y.group(1));
        Check.due("none such", -1, y.group(2));
    }

    private static void p23oneDay() {
        Check.about("promise 23");
        SorryPurses x = town(STREET);
        Check.due("the most", 55, x.oneDay());
        x.bite(71);
        Check.due("what would be paid", 35, x.oneDay());
        Check.due("not the greatest first", 15, town(THREE + "wrong 0 1 10;wrong 0 2 8;wrong 2 1 7;").oneDay());
        Check.due("each hears one", 9, town(THREE + "wrong 0 1 9;wrong 2 1 8;").oneDay());
        Check.due("each says one", 9, town(THREE + "wrong 0 1 9;wrong 0 2 8;").oneDay());
        Check.due("none", 0, town(THREE).oneDay());
        Check.due("nothing stays changed", 4, x.told(2));
    }

    private static void p24says() {
        Check.about("promise 24");
        SorryPurses x = town(STREET);
        Check.due("0", 0, x.says(0));
        Check.due("1", 1, x.says(1));
        Check.due("2", -1, x.says(2));
        SorryPurses y = town(THREE + "wrong 0 2 5;wrong 1 2 5;");
        Check.due("nobody ahead of people", -1, y.says(0));
        Check.due("then he", 1, y.says(1));
        Check.due("by numbers", 1, town(THREE + "wrong 0 2 5;wrong 0 1 5;").says(0));
        Check.due("the most, then the least number", 1, town(THREE + "wrong 0 1 5;wrong 0 1 9;wrong 0 1 9;").says(0));
        Check.refused("no person", NO_SUCH, () -> x.says(3));
        Check.refused("no person", NO_SUCH, () -> x.says(-1));
    }

    private static void p25lies() {
        Check.about("promise 25");
        SorryPurses x = town(STREET);
        Check.due("without a book", 0, x.lies(0));
        Check.due("without a book", 0, x.lies(1));
        book(x, "0 - 25;2 35;");
        Check.due("one", 1, x.lies(0));
        Check.due("claim 2", 4, x.lies(1));
        book(x, "1 -10;0 5;");
        Check.due("by no set", -1, x.lies(0));
        Check.due("by no set", -1, x.lies(1));
        book(x, "0 0;1 0;2 0;");
        Check.due("all four", 15, x.lies(1));
        book(x, "0 0;0 1;");
        Check.due("not both", -1, x.lies(0));
        SorryPurses y = town(THREE + "wrong 0 1 3;wrong 0 1 5;wrong 0 1 5;wrong 0 1 2;");
        book(y, "1 10;");
        Check.due("the fewest", 1, y.lies(0));
        Check.due("the least bits", 2, y.lies(1));
        SorryPurses z = town(THREE + many("wrong 0 1 1;", 16));
        book(z, "1 0;");
        Check.due("16", 16, z.lies(0));
        Check.due("16", 65535, z.lies(1));
        book(z, "1 8;");
        Check.due("8 of them", 255, z.lies(1));
        deeds(z, "slap 0 1 1;");
        Check.refused("17 stand", STATE, () -> z.lies(0));
        Check.refused("what comes first", BAD, () -> z.lies(2));
        deeds(z, "forgive 0;");
        Check.due("16 stand: 8 of them", 510, z.lies(1));
        Check.refused("what", BAD, () -> x.lies(2));
        Check.refused("what", BAD, () -> x.lies(-1));
    }

    private static void p26right() {
        Check.about("promise 26");
        SorryPurses x = town(STREET);
        Check.due("no book", 0, x.right());
        book(x, "0 -25;2 35;");
        Check.due("both", 2, x.right());
        book(x, "0 -25;1 99;2 35;");
        Check.due("from the first on", 1, x.right());
        book(x, "0 -13;2 35;");
        Check.due("truly", 0, x.right());
    }

    private static void p27errors() {
        Check.about("promise 27");
        SorryPurses x = town(STREET);
        Check.due("true ones", 0, x.errors(60, 0));
        Check.due("true ones", 0, x.errors(70, 0));
        Check.due("true ones", 2, x.errors(71, 0));
        Check.due("true ones", 3, x.errors(100, 0));
        Check.due("false ones", 1, x.errors(50, 1));
        Check.due("false ones", 0, x.errors(51, 1));
        deeds(x, "forgive 2;forgive 1;");
        Check.due("what stands", 0, x.errors(0, 1));
        Check.due("what stands", 2, x.errors(100, 0));
        Check.refused("bite", BAD, () -> x.errors(101, 0));
        Check.refused("bite", BAD, () -> x.errors(-1, 0));
        Check.refused("what", BAD, () -> x.errors(0, 2));
        Check.refused("what", BAD, () -> x.errors(0, -1));
    }

    private static void p28best() {
        Check.about("promise 28");
        SorryPurses x = town(STREET);
        Check.due("the least", 51, x.best());
        law(x, "99");
        Check.due("one false one", 0, x.best());
        Check.due("false ones alone", 51, town("person 0;person 0;false 0 1 5;").best());
        SorryPurses y = town("person 0;person 0;false 0 1 5;");
        law(y, "99");
        Check.due("none is paid at 100", 100, y.best());
        Check.due("no claims", 0, town(THREE).best());
    }

    private static void p29bite() {
        Check.about("promise 29");
        SorryPurses x = town(STREET);
        Check.due("what it was", 60, x.bite(0));
        Check.due("what it was", 0, x.bite(100));
        Check.due("it is so", 100, x.told(5));
        Check.due("none would be paid", 0, x.open());
        Check.refused("bite", BAD, () -> x.bite(101));
        Check.refused("bite", BAD, () -> x.bite(-1));
        Check.due("it stays", 100, x.told(5));
    }

    private static void p30swell() {
        Check.about("promise 30");
        SorryPurses x = town(STREET);
        Check.due("now", 72, x.swell(0));
        Check.due("one day", 79, x.swell(1));
        Check.due("two days", 86, x.swell(2));
        deeds(x, "tell 0;forgive 1;");
        Check.due("from the next day on", 24 + 13 + 6, x.swell(1));
        Check.due("without interest 1 a day", 9 + 60, town(THREE + "interest 0;wrong 0 1 9;").swell(60));
        Check.due("9,999 at most each", 2 * 9999, town(THREE + "interest 50;wrong 0 1 9;wrong 0 1 900;").swell(60));
        Check.due("nothing stays changed", 22, x.claim(0, 2));
        Check.refused("n", BAD, () -> x.swell(61));
        Check.refused("n", BAD, () -> x.swell(-1));
    }

    private static void p31burst() {
        Check.about("promise 31");
        SorryPurses x = town(STREET);
        Check.due("the first day", 1, x.burst(0));
        Check.due("the first day", 1, x.burst(Integer.MIN_VALUE));
        Check.due("the first day", 1, x.burst(79));
        Check.due("the second day", 2, x.burst(80));
        int last = x.swell(60);
        Check.due("the last day", 60, x.burst(last));
        Check.due("never", -1, x.burst(last + 1));
        Check.due("never", -1, x.burst(Integer.MAX_VALUE));
        for (int n = 1; n <= 60; n++) {
            Check.due("day " + n, n, x.burst(x.swell(n - 1) + 1));
        }
    }

    private static void p32till() {
        Check.about("promise 32");
        SorryPurses x = new SorryPurses();
        Check.due("both mean it", 8, x.till(1, 0, 2, 3));
        Check.due("all alike", 15, x.till(0, 0, 0, 0));
        Check.due("the mixed ones", 6, x.till(1, 5, 6, 0));
        Check.due("both or none", 9, x.till(2, 0, 0, 1));
        Check.due("none means it", 1, x.till(-98, 99, -99, 98));
        Check.due("the edges", 9, x.till(99, -99, -99, 99));
        for (int beyond = -100; beyond <= 100; beyond += 200) {
            int b = beyond;
            Check.refused("a " + b, BAD, () -> x.till(b, 0, 0, 0));
            Check.refused("b " + b, BAD, () -> x.till(0, b, 0, 0));
            Check.refused("c " + b, BAD, () -> x.till(0, 0, b, 0));
            Check.refused("d " + b, BAD, () -> x.till(0, 0, 0, b));
        }
    }

    private static void p33extreme() {
        Check.about("promise 33");
        SorryPurses x = town(STREET);
        Check.due("richest", 2, x.extreme(0));
        Check.due("poorest", 0, x.extreme(1));
        Check.due("the first", 0, town(THREE).extreme(0));
        Check.due("the first", 0, town(THREE).extreme(1));
        Check.due("the first below 0", 1, town(FOUR + "wrong 1 0 5;wrong 2 3 5;").extreme(1));
        SorryPurses y = new SorryPurses();
        Check.due("nobody", -1, y.extreme(0));
        Check.due("nobody", -1, y.extreme(1));
        Check.refused("what", BAD, () -> y.extreme(2));
        Check.refused("what", BAD, () -> x.extreme(-1));
    }

    private static void p34chosen() {
        Check.about("promise 34");
        SorryPurses x = town(STREET);
        deeds(x, "day 1;slap 1 0 5;slap 1 2 5;");
        Check.due("oldest", 0, x.chosen(0));
        Check.due("sweetest", 1, x.chosen(1));
        deeds(x, "forgive 0;forgive 1;forgive 2;forgive 3;");
        Check.due("oldest", 4, x.chosen(0));
        Check.due("sweetest", 4, x.chosen(1));
        law(x, "0");
        Check.due("sweetest at 0", 4, x.chosen(1));
        deeds(x, "forgive 4;forgive 5;");
        Check.due("none stands", -1, x.chosen(0));
        Check.due("none stands", -1, x.chosen(1));
        Check.refused("what", BAD, () -> x.chosen(2));
        Check.refused("what", BAD, () -> x.chosen(-1));
    }

    private static void p35heard() {
        Check.about("promise 35");
        SorryPurses x = town(STREET);
        Check.due("both", 25, x.heard(1));
        Check.due("the false one is not", 0, x.heard(0));
        law(x, "held*30");
        Check.due("one goes, then he holds one", 20, x.heard(1));
        law(x, "90-held*20");
        Check.due("none while he holds two", 0, x.heard(1));
        Check.due("nothing stays changed", 2, x.person(1, 3));
        Check.refused("no person", NO_SUCH, () -> x.heard(3));
        Check.refused("no person", NO_SUCH, () -> x.heard(-1));
    }

    private static void p36payers() {
        Check.about("promise 36");
        SorryPurses x = town(STREET);
        Check.due("1 can", 2, x.payers(2, 25));
        Check.due("it is on none but 0", 0, x.payers(0, 12));
        Check.due("0 can", 1, x.payers(1, 12));
        Check.due("not to himself", 0, x.payers(1, 20));
        Check.due("two can", 5, town(THREE + "wrong 2 0 5;wrong 0 2 5;").payers(1, 5));
        Check.refused("n", BAD, () -> x.payers(1, 0));
        Check.refused("n", BAD, () -> x.payers(1, 1000));
        Check.refused("no person", NO_SUCH, () -> x.payers(3, 0));
    }

    private static void p37lacking() {
        Check.about("promise 37");
        SorryPurses x = town(STREET);
        Check.due("4", 4, x.lacking(1, 24));
        Check.due("0", 0, x.lacking(1, 25));
        Check.due("3", 3, x.lacking(1, 3));
        Check.due("0", 0, x.lacking(1, 0));
        Check.due("beyond all", 9974, x.lacking(1, 9999));
        Check.due("two large ones", 1, twoLarge().lacking(1, 9999));
        Check.due("9", 9, town(THREE + many("wrong 0 1 999;", 11)).lacking(1, 9999));
        Check.refused("n", BAD, () -> x.lacking(1, 10000));
        Check.refused("n", BAD, () -> x.lacking(1, -1));
        Check.refused("no person", NO_SUCH, () -> x.lacking(3, -1));
    }

    private static void p38grown() {
        Check.about("promise 38");
        SorryPurses x = town(STREET);
        Check.due("now", 20, x.grown(0, 0));
        Check.due("one day", 22, x.grown(0, 1));
        Check.due("1 at least", 7, x.grown(3, 2));
        deeds(x, "tell 0;forgive 1;");
        Check.due("from the next day on", 24, x.grown(0, 1));
        Check.due("gone", 0, x.grown(1, 1));
        Check.due("9,999 at most", 9999, town(THREE + "interest 50;wrong 0 1 9;").grown(0, 60));
        Check.refused("n", BAD, () -> x.grown(1, 61));
        Check.refused("n", BAD, () -> x.grown(0, -1));
        Check.refused("no claim", NO_SUCH, () -> x.grown(4, -1));
    }

    private static void p39square() {
        Check.about("promise 39");
        Check.due("none", 0, town(STREET).square());
        Check.due("all", 7, town(THREE).square());
        Check.due("some", 10, town(FOUR + "wrong 0 2 5;wrong 1 3 2;wrong 3 1 2;").square());
        Check.due("nobody", 0, new SorryPurses().square());
    }

    private static void p40aged() {
        Check.about("promise 40");
        SorryPurses x = town(STREET);
        Check.due("all", 15, x.aged(0));
        Check.due("none", 0, x.aged(1));
        deeds(x, "day 2;slap 0 1 1;day 1;forgive 1;");
        Check.due("3 days", 13, x.aged(3));
        Check.due("1 day", 29, x.aged(1));
        Check.due("4 days", 0, x.aged(4));
        Check.due("9,999 days", 0, x.aged(9999));
        Check.refused("n", BAD, () -> x.aged(10000));
        Check.refused("n", BAD, () -> x.aged(-1));
    }

    private static void p41master() {
        Check.about("promise 41");
        SorryPurses x = town(STREET);
        Check.due("1", 1, x.master(0));
        Check.due("2", 2, x.master(1));
        Check.due("0", 0, x.master(2));
        Check.due("most sorrows", 2, town(THREE + "wrong 0 1 3;wrong 0 2 4;").master(0));
        Check.due("together", 1, town(THREE + "wrong 0 1 3;wrong 0 2 4;wrong 0 1 3;").master(0));
        Check.due("the first", 1, town(THREE + "wrong 0 2 4;wrong 0 1 4;").master(0));
        Check.due("nothing", -1, town(THREE + "wrong 0 2 4;").master(1));
        Check.refused("no person", NO_SUCH, () -> x.master(3));
        Check.refused("no person", NO_SUCH, () -> x.master(-1));
    }

    private static void monthDue(SorryPurses x, int[] asks, int... want) {
        for (int what = 0; what < 4; what++) {
            String call = "month " + Arrays.toString(asks) + " " + what;
            Check.due(call, want[what], x.month(asks[0], asks[1], asks[2], asks[3], what));
        }
    }

    /** Worked out apart from the program. */
    private static void p42month() {
        Check.about("promise 42");
        SorryPurses x = town(THREE);
        monthDue(x, new int[] {5, 3, 8, 4}, 9, 3, 6, 0);
        monthDue(x, new int[] {-1, 30, 16, 0}, 198, 40, 0, 0);
        monthDue(x, new int[] {2147483647, 30, 3, 9}, 20, 8, 89, 1);
        monthDue(x, new int[] {77, 12, 9, 16}, 25, 10, 80, 2);
        monthDue(x, new int[] {1, 1, 16, 16}, 7, 2, 7, 0);
        SorryPurses y = town(STREET);
        monthDue(y, new int[] {5, 3, 0, 0}, 72, 4, 0, 2);
        monthDue(y, new int[] {5, 3, 0, 16}, 5, 1, 67, 1);
        monthDue(town("person 1;"), new int[] {9, 30, 16, 16}, 0, 0, 0, 0);
        monthDue(new SorryPurses(), new int[] {9, 30, 16, 16}, 0, 0, 0, -1);
        Check.due("nothing stays changed", 0, x.told(1));
        Check.due("nothing stays changed", 0, x.told(3));
        Check.refused("n", BAD, () -> x.month(1, 0, 1, 1, 0));
        Check.refused("n", BAD, () -> x.month(1, 31, 1, 1, 0));
        Check.refused("q", BAD, () -> x.month(1, 1, 17, 1, 0));
        Check.refused("q", BAD, () -> x.month(1, 1, -1, 1, 0));
        Check.refused("z", BAD, () -> x.month(1, 1, 1, 17, 0));
        Check.refused("z", BAD, () -> x.month(1, 1, 1, -1, 0));
        Check.refused("what", BAD, () -> x.month(1, 1, 1, 1, 4));
        Check.refused("what", BAD, () -> x.month(1, 1, 1, 1, -1));
    }

    private static void p43span() {
        Check.about("promise 43");
        SorryPurses x = town(THREE);
        int fewest = Integer.MAX_VALUE;
        int most = 0;
        int[] first = new int[3];
        for (int i = 0; i < 20; i++) {
            int seed = Integer.MAX_VALUE - 5 + i;
            int sorrows = x.month(seed, 9, 5, 4, 0);
            fewest = Math.min(fewest, sorrows);
            most = Math.max(most, sorrows);
            first[x.month(seed, 9, 5, 4, 3)]++;
        }
        int from = Integer.MAX_VALUE - 5;
        Check.due("the fewest", fewest, x.span(from, 20, 9, 5, 4, 0, 0));
        Check.due("the most", most, x.span(from, 20, 9, 5, 4, 1, 0));
        for (int p = 0; p < 3; p++) {
            Check.due("greatest " + p, first[p], x.span(from, 20, 9, 5, 4, 2, p));
        }
        Check.due("one seed", x.month(3, 9, 5, 4, 0), x.span(3, 1, 9, 5, 4, 0, 0));
        Check.refused("no person", BAD, () -> x.span(1, 1, 1, 1, 1, 0, 3));
        Check.refused("no person", BAD, () -> x.span(1, 1, 1, 1, 1, 2, -1));
        Check.refused("many", BAD, () -> x.span(1, 0, 1, 1, 1, 0, 0));
        Check.refused("many", BAD, () -> x.span(1, 21, 1, 1, 1, 0, 0));
        Check.refused("n", BAD, () -> x.span(1, 1, 31, 1, 1, 0, 0));
        Check.refused("n", BAD, () -> x.span(1, 1, 0, 1, 1, 0, 0));
        Check.refused("q", BAD, () -> x.span(1, 1, 1, 17, 1, 0, 0));
        Check.refused("z", BAD, () -> x.span(1, 1, 1, 1, 17, 0, 0));
        Check.refused("what", BAD, () -> x.span(1, 1, 1, 1, 1, 3, 0));
        Check.refused("what", BAD, () -> x.span(1, 1, 1, 1, 1, -1, 0));
    }

    private static void p44image() {
        Check.about("promise 44");
        SorryPurses x = town(STREET);
        Check.due("one", 1, x.image());
        Check.due("two", 2, x.image());
        Check.due("three", 3, x.image());
        Check.due("no more", -1, x.image());
        Check.due("three", 3, x.count(0));
        x.restore();
        Check.due("three again", 3, x.image());
    }

    private static void p45restore() {
        Check.about("promise 45");
        SorryPurses x = town(STREET);
        deeds(x, "day 1;forgive 0;");
        x.image();
        deeds(x, "day 1;sorry 0;");
        x.bite(1);
        x.image();
        x.undo();
        x.undo();
        deeds(x, "day 9;forgive 3;");
        x.bite(2);
        law(x, "5");
        book(x, "0 1;");
        put(x, "x");
        Check.due("one is left", 1, x.restore());
        Check.due("the day", 2, x.told(3));
        Check.due("the bite", 1, x.told(5));
        Check.due("refused is 0", 0, x.told(7));
        Check.due("rows", 2, x.count(2));
        Check.due("the law is now's", 5, x.meant(1));
        Check.due("the book is now's", 1, x.told(6));
        Check.due("the tape is now's", 20, x.count(1));
        Check.due("stands", 0, x.claim(3, 7));
        Check.due("rows can be undone", 1, x.undo());
        Check.due("the day", 1, x.told(3));
        Check.due("none is left", 0, x.restore());
        Check.due("the day", 1, x.told(3));
        Check.due("the bite", 60, x.told(5));
        Check.due("rows", 1, x.count(2));
        Check.due("rows can be undone", 0, x.undo());
        Check.due("stands", 0, x.claim(0, 7));
        Check.due("there is none", -1, x.restore());
    }

    private static void p46status() {
        Check.about("promise 46");
        SorryPurses x = town(THREE + many("wrong 0 1 1;", 17));
        x.image();
        Check.refused("person", NO_SUCH, () -> x.worth(9, 9));
        Check.refused("claim", NO_SUCH, () -> x.claim(17, 0));
        Check.refused("what", BAD, () -> x.worth(0, 9));
        Check.refused("state", STATE, () -> x.lies(0));
        Check.refused("state", STATE, () -> x.lies(0));
        Check.refused("state", STATE, () -> x.lies(1));
        x.restore();
        x.town(0);
        Check.due("no such", 2, x.status(0));
        Check.due("arguments", 1, x.status(1));
        Check.due("states", 3, x.status(2));
        Check.due("others", -1, x.status(3));
        Check.due("others", -1, x.status(-1));
    }

    private static void p47count() {
        Check.about("promise 47");
        SorryPurses x = town(STREET);
        x.image();
        x.image();
        deeds(x, "day 1;");
        put(x, "law");
        Check.due("images", 2, x.count(0));
        Check.due("bytes", 20, x.count(1));
        Check.due("rows", 1, x.count(2));
        Check.due("others", -1, x.count(3));
        Check.due("others", -1, x.count(-1));
    }
}
