import java.util.Arrays;
import java.util.NoSuchElementException;

/** A town that pays in apologies: its people, the claims they pass on, and what these are worth. */
public final class SorryPurses {
    public static final int NONE = -1;

    private static final int TAPE_BYTES = 600;
    private static final int FED_BYTES = 20;
    private static final int LAW_BYTES = 150;
    private static final int DEED_BYTES = 200;
    private static final int BOOK_BYTES = 150;

    private static final int MOST_CLAUSES = 60;
    private static final int MOST_PEOPLE = 8;
    private static final int TOWN_CLAIMS = 24;
    private static final int MOST_CLAIMS = 40;
    private static final int MOST_DEEDS = 30;
    private static final int MOST_LINES = 8;
    private static final int MOST_NESTED = 6;
    private static final int MOST_ROWS = 20;
    private static final int MOST_IMAGES = 3;
    private static final int MOST_JUDGED = 16;

    private static final int MOST_SIZE = 9999;
    private static final int MOST_TOLD_SIZE = 999;
    private static final int MOST_BITE = 100;
    private static final int MOST_MEANT = 99;
    private static final int MOST_SWELL = 60;

    private static final int FAULT_PLACE = 1;
    private static final int FAULT_NUMBER = 2;
    private static final int FAULT_MANY = 3;
    private static final int FAULT_LESS = 10;
    private static final int ROWS_FULL = -20;

    private static final int ON = 0;
    private static final int HOLDER = 1;
    private static final int SIZE = 2;
    private static final int MADE = 3;
    private static final int PASSED = 4;
    private static final int TOLD = 5;
    private static final int TRUTH = 6;
    private static final int FATE = 7;
    private static final int LAST_TOLD = 8;
    private static final int FIELDS = 9;

    private static final int STANDS = 0;
    private static final int PAID = 1;
    private static final int BURNT = 2;
    private static final int HOME = 3;
    private static final int JOINED = 4;

    private final Tape tape;
    private final Town town;
    private final Town townDraft;
    private final Law law;
    private final Law lawDraft;
    private final Book book;
    private final Book bookDraft;
    private final Ledger ledger;
    private final Judge judge;
    private final Purse purse;
    private final Deeds deeds;
    private final Crowd crowd;
    private final Months months;
    private final History history;
    private final int[] refusals;

    public SorryPurses() {
        tape = new Tape();
        town = new Town();
        townDraft = new Town();
        law = new Law();
        lawDraft = new Law();
        book = new Book();
        bookDraft = new Book();
        ledger = new Ledger();
        judge = new Judge(town, law, ledger);
        purse = new Purse(ledger);
        deeds = new Deeds(town, ledger, judge, purse);
        crowd = new Crowd(town, ledger, judge);
        months = new Months(town, ledger);
        history = new History();
        refusals = new int[3];
    }

    public int feed(int a, int b, int c, int d, int e) {
        if (!tape.hasRoom()) {
            return NONE;
        }
        tape.put(a);
        tape.put(b);
        tape.put(c);
        tape.put(d);
        tape.put(e);
        return tape.filled;
    }

    public int town(int n) throws IllegalArgumentException {
        needText(n, TAPE_BYTES);
        tape.start(n);
        townDraft.read(tape);
        if (tape.isFaulty()) {
            return tape.faultKind - FAULT_LESS;
        }
        town.copyFrom(townDraft);
        town.settle(ledger);
        judge.bite = town.firstBite;
        law.reset();
        book.lines = 0;
        history.forget();
        deeds.refused = 0;
        return ledger.made;
    }

    public int law(int n) throws IllegalArgumentException {
        needText(n, LAW_BYTES);
        tape.start(n);
        lawDraft.read(tape);
        if (tape.isFaulty()) {
            return tape.faultKind - FAULT_LESS;
        }
        law.copyFrom(lawDraft);
        return 1;
    }

    public int deeds(int n) throws IllegalArgumentException {
        needText(n, DEED_BYTES);
        if (history.depth >= MOST_ROWS) {
            tape.start(0);
            return ROWS_FULL;
        }
        tape.start(n);
        deeds.read(tape);
        if (tape.isFaulty()) {
            return tape.faultKind - FAULT_LESS;
        }
        history.push(ledger);
        return deeds.perform();
    }

    public int book(int n) throws IllegalArgumentException {
        needText(n, BOOK_BYTES);
        tape.start(n);
        bookDraft.read(tape, town.people);
        if (tape.isFaulty()) {
            return tape.faultKind - FAULT_LESS;
        }
        book.copyFrom(bookDraft);
        return book.lines;
    }

    public int fault() {
        return tape.faultPlace;
    }

    public int undo() {
        if (history.depth == 0) {
            return NONE;
        }
        history.pop(ledger);
        deeds.refused = 0;
        return history.depth;
    }

    public int told(int what) throws IllegalArgumentException {
        needArgument(what >= 0 && what <= 7);
        switch (what) {
            case 0:
                return town.people;
            case 1:
                return ledger.made;
            case 2:
                return ledger.standing();
            case 3:
                return ledger.day;
            case 4:
                return town.interest;
            case 5:
                return judge.bite;
            case 6:
                return book.lines;
            default:
                return deeds.refused;
        }
    }

    public int claim(int claim, int what) throws NoSuchElementException, IllegalArgumentException {
        needClaim(claim);
        needArgument(what >= ON && what <= FATE);
        return ledger.get(what, claim);
    }

    public int person(int person, int what) throws NoSuchElementException, IllegalArgumentException {
        needPerson(person);
        needArgument(what >= 0 && what <= 4);
        switch (what) {
            case 0:
                return town.temperOf(person);
            case 1:
                return ledger.sorrows(HOLDER, person);
            case 2:
                return ledger.sorrows(ON, person);
            case 3:
                return ledger.howMany(HOLDER, person);
            default:
                return ledger.howMany(ON, person);
        }
    }

    public int worth(int person, int what) throws NoSuchElementException, IllegalArgumentException {
        needPerson(person);
        needArgument(what == 0 || what == 1);
        return ledger.worthOf(person, what == 1);
    }

    public int sums(int what) throws IllegalArgumentException {
        needArgument(what >= 0 && what <= 4);
        return what == 0 ? ledger.standingSorrows() : ledger.totalOf(what);
    }

    public int between(int person, int other) throws NoSuchElementException {
        needPerson(person);
        needPerson(other);
        return ledger.owed(person, other);
    }

    public int meant(int claim) throws NoSuchElementException {
        needClaim(claim);
        return judge.weigh(claim);
    }

    public int would(int size, int age, int temper, int heat, int told) throws IllegalArgumentException {
        needArgument(isIn(size, 0, MOST_SIZE) && isIn(age, 0, 999) && isIn(temper, 0, 9)
                && isIn(heat, 0, 9) && isIn(told, 0, 999));
        return judge.imagine(size, age, temper, heat, told);
    }

    public long open() {
        return judge.openClaims();
    }

    public long pays(int person, int other, int n) throws NoSuchElementException, IllegalArgumentException {
        needPerson(person);
        needPerson(other);
        needArgument(person != other && isIn(n, 1, MOST_TOLD_SIZE));
        return purse.fewest(person, other, n);
    }

    public int cover(int person, int n) throws NoSuchElementException, IllegalArgumentException {
        needPerson(person);
        needArgument(isIn(n, 0, MOST_SIZE));
        return purse.leastFrom(person, n);
    }

    public int ways(int person) throws NoSuchElementException {
        needPerson(person);
        return purse.howManySums(person);
    }

    public int even(int what) throws IllegalArgumentException {
        needArgument(what == 0 || what == 1);
        crowd.settle();
        return what == 1 ? crowd.groupCount : crowd.unevenPeople() - crowd.groupCount;
    }

    public int group(int i) {
        crowd.settle();
        return crowd.groupAt(i);
    }

    public int oneDay() {
        crowd.meet();
        return crowd.mostPaid();
    }

    public int says(int person) throws NoSuchElementException {
        needPerson(person);
        crowd.meet();
        return crowd.saidBy(person);
    }

    public long lies(int what) throws IllegalArgumentException, IllegalStateException {
        needArgument(what == 0 || what == 1);
        needState(ledger.standing() <= MOST_JUDGED);
        book.seekFalse(ledger);
        if (!book.hasFound()) {
            return NONE;
        }
        return what == 0 ? book.foundCount : book.foundBits;
    }

    public int right() {
        return book.rightLines(ledger);
    }

    public int errors(int bite, int what) throws IllegalArgumentException {
        needArgument(isIn(bite, 0, MOST_BITE) && (what == 0 || what == 1));
        judge.weighAll();
        return judge.errorsAt(bite, 1 - what);
    }

    public int best() {
        return judge.leastErring();
    }

    public int bite(int bite) throws IllegalArgumentException {
        needArgument(isIn(bite, 0, MOST_BITE));
        int before = judge.bite;
        judge.bite = bite;
        return before;
    }

    public int swell(int n) throws IllegalArgumentException {
        needArgument(isIn(n, 0, MOST_SWELL));
        return ledger.swollen(n, town.interest);
    }

    public int burst(int x) {
        if (ledger.swollen(MOST_SWELL, town.interest) < x) {
            return NONE;
        }
        int low = 1;
        int high = MOST_SWELL;
        // sorrow never shrinks from day to day, so halving finds the first
        for (int i = 0; i < MOST_SWELL && low < high; i++) {
            int middle = (low + high) / 2;
            if (ledger.swollen(middle, town.interest) >= x) {
                high = middle;
            } else {
                low = middle + 1;
            }
        }
        return low;
    }

    public int till(int a, int b, int c, int d) throws IllegalArgumentException {
        needArgument(isIn(a, -99, 99) && isIn(b, -99, 99) && isIn(c, -99, 99) && isIn(d, -99, 99));
        boolean stay00 = a >= c;
        boolean stay01 = b >= d;
        // each of the two mixed pairs asks the same of both minds: 0 against 1 is content, 1 against 0 is content
        boolean mixed = stay01 && c >= a;
        boolean stay11 = d >= b;
        return (stay00 ? 1 : 0) + (mixed ? 6 : 0) + (stay11 ? 8 : 0);
    }

    public int extreme(int what) throws IllegalArgumentException {
        needArgument(what == 0 || what == 1);
        return ledger.extremePerson(town.people, what == 0 ? 1 : -1);
    }

    public int chosen(int what) throws IllegalArgumentException {
        needArgument(what == 0 || what == 1);
        return what == 0 ? ledger.oldest() : judge.sweetest();
    }

    public int heard(int person) throws NoSuchElementException {
        needPerson(person);
        return judge.hearAll(person);
    }

    public int payers(int person, int n) throws NoSuchElementException, IllegalArgumentException {
        needPerson(person);
        needArgument(isIn(n, 1, MOST_TOLD_SIZE));
        int bits = 0;
        for (int p = 0; p < town.people; p++) {
            if (p != person && purse.fewest(p, person, n) != 0) {
                bits |= 1 << p;
            }
        }
        return bits;
    }

    public int lacking(int person, int n) throws NoSuchElementException, IllegalArgumentException {
        needPerson(person);
        needArgument(isIn(n, 0, MOST_SIZE));
        return n - purse.mostUpTo(person, n);
    }

    public int grown(int claim, int n) throws NoSuchElementException, IllegalArgumentException {
        needClaim(claim);
        needArgument(isIn(n, 0, MOST_SWELL));
        return ledger.isStanding(claim) ? ledger.sizeAfter(claim, n, town.interest) : 0;
    }

    public int square() {
        int bits = 0;
        for (int p = 0; p < town.people; p++) {
            if (ledger.worthOf(p, false) == 0) {
                bits |= 1 << p;
            }
        }
        return bits;
    }

    public long aged(int n) throws IllegalArgumentException {
        needArgument(isIn(n, 0, 9999));
        return ledger.madeAgo(n);
    }

    public int master(int person) throws NoSuchElementException {
        needPerson(person);
        int first = NONE;
        int most = 0;
        for (int p = 0; p < town.people; p++) {
            int held = ledger.owed(person, p);
            if (held > most) {
                most = held;
                first = p;
            }
        }
        return first;
    }

    public int month(int seed, int n, int q, int z, int what) throws IllegalArgumentException {
        needMonth(n, q, z);
        needArgument(what >= 0 && what <= 3);
        months.run(seed, n, q, z);
        switch (what) {
            case 0:
                return months.world.standingSorrows();
            case 1:
                return months.world.standing();
            case 2:
                return months.forgiven;
            default:
                return months.richest();
        }
    }

    public int span(int seed, int many, int n, int q, int z, int what, int person) throws IllegalArgumentException {
        needMonth(n, q, z);
        needArgument(isIn(many, 1, 20) && what >= 0 && what <= 2 && isIn(person, 0, town.people - 1));
        int fewest = 0;
        int most = 0;
        int first = 0;
        for (int i = 0; i < many; i++) {
            months.run(seed + i, n, q, z);
            int sorrows = months.world.standingSorrows();
            fewest = i == 0 ? sorrows : Math.min(fewest, sorrows);
            most = Math.max(most, sorrows);
            first += what == 2 && months.richest() == person ? 1 : 0;
        }
        return what == 0 ? fewest : what == 1 ? most : first;
    }

    public int image() {
        if (history.images >= MOST_IMAGES) {
            return NONE;
        }
        history.takeImage(ledger, judge.bite);
        return history.images;
    }

    public int restore() {
        if (history.images == 0) {
            return NONE;
        }
        judge.bite = history.giveBack(ledger);
        deeds.refused = 0;
        return history.images;
    }

    public int status(int what) {
        return what >= 0 && what < refusals.length ? refusals[what] : NONE;
    }

    public int count(int what) {
        switch (what) {
            case 0:
                return history.images;
            case 1:
                return tape.filled;
            case 2:
                return history.depth;
            default:
                return NONE;
        }
    }

    private static boolean isIn(int value, int low, int high) {
        return value >= low && value <= high;
    }

    private void needText(int n, int most) {
        needArgument(n >= 0 && n <= most && n <= tape.filled);
    }

    private void needMonth(int n, int q, int z) {
        needArgument(isIn(n, 1, 30) && isIn(q, 0, 16) && isIn(z, 0, 16));
    }

    private void needPerson(int person) {
        if (person < 0 || person >= town.people) {
            refusals[0]++;
            throw new NoSuchElementException("no such person");
        }
    }

    private void needClaim(int claim) {
        if (claim < 0 || claim >= ledger.made) {
            refusals[0]++;
            throw new NoSuchElementException("no such claim");
        }
    }

    private void needArgument(boolean fine) {
        if (!fine) {
            refusals[1]++;
            throw new IllegalArgumentException("not within what is told");
        }
    }

    private void needState(boolean fine) {
        if (!fine) {
            refusals[2]++;
            throw new IllegalStateException("too many claims stand");
        }
    }

    /** The bytes that were fed, and a reader over a text at their beginning that stops at its first FAULT. */
    private static final class Tape {
        private static final int LARGE = 1000000;

        private final byte[] bytes = new byte[TAPE_BYTES];
        private int filled;
        private int length;
        private int at;
        /** Where the latest word or number begins. */
        private int mark;
        private int faultKind;
        private int faultPlace = NONE;

        boolean hasRoom() {
            return filled + FED_BYTES <= TAPE_BYTES;
        }

        void put(int number) {
            for (int shift = 24; shift >= 0; shift -= 8) {
                if (filled >= 0 && filled < bytes.length) {
                    bytes[filled] = (byte) (number >> shift);
                    filled++;
                }
            }
        }

        /** The tape is empty from here on; its old bytes stay readable as the text. */
        void start(int n) {
            filled = 0;
            length = Math.min(n, bytes.length);
            at = 0;
            mark = 0;
            faultKind = 0;
            faultPlace = NONE;
        }

        boolean isFaulty() {
            return faultKind != 0;
        }

        void blame(int kind, int place) {
            if (faultKind == 0) {
                faultKind = kind;
                faultPlace = place;
            }
        }

        /** The byte behind blanks, which stays to be read; NONE at the end. */
        int next() {
            for (int i = at; i < length; i++) {
                int c = byteAt(i);
                if (c != ' ') {
                    at = i;
                    return c;
                }
            }
            at = length;
            return NONE;
        }

        boolean hasMore() {
            return faultKind == 0 && next() != NONE;
        }

        /** Takes the sign, if it stands next. */
        boolean takes(char sign) {
            if (faultKind != 0 || next() != sign) {
                return false;
            }
            at++;
            return true;
        }

        void needSign(char sign) {
            if (faultKind != 0) {
                return;
            }
            if (next() == sign) {
                at++;
            } else {
                blame(FAULT_PLACE, at);
            }
        }

        /** Which of the words (with blanks between them) stands next; NONE behind a FAULT. */
        int word(String words) {
            if (faultKind != 0) {
                return NONE;
            }
            next();
            mark = at;
            int end = at;
            for (int i = at; i < length && isLetter(byteAt(i)); i++) {
                end = i + 1;
            }
            int found = end > mark ? find(words, end) : NONE;
            if (found == NONE) {
                blame(FAULT_PLACE, mark);
            } else {
                at = end;
            }
            return found;
        }

        int number(int low, int high) {
            if (faultKind != 0) {
                return NONE;
            }
            next();
            mark = at;
            int value = 0;
            int end = at;
            for (int i = at; i < length && isDigit(byteAt(i)); i++) {
                value = Math.min(LARGE, value * 10 + byteAt(i) - '0');
                end = i + 1;
            }
            if (end == mark) {
                blame(FAULT_PLACE, mark);
                return NONE;
            }
            at = end;
            if (value < low || value > high) {
                blame(FAULT_NUMBER, mark);
                return NONE;
            }
            return value;
        }

        /** A number as number() reads it, but not the other one. */
        int numberBut(int other, int low, int high) {
            int value = number(low, high);
            if (value == other) {
                blame(FAULT_NUMBER, mark);
            }
            return value;
        }

        static boolean isDigit(int c) {
            return c >= '0' && c <= '9';
        }

        private static boolean isLetter(int c) {
            return c >= 'a' && c <= 'z';
        }

        private int byteAt(int i) {
            return i >= 0 && i < bytes.length ? bytes[i] & 255 : NONE;
        }

        private int find(String words, int end) {
            int index = 0;
            int i = mark;
            boolean same = true;
            for (int w = 0; w <= words.length(); w++) {
                char c = w < words.length() ? words.charAt(w) : ' ';
                if (c != ' ') {
                    same = same && i < end && byteAt(i) == c;
                    i++;
                } else if (same && i == end) {
                    return index;
                } else {
                    index++;
                    i = mark;
                    same = true;
                }
            }
            return NONE;
        }
    }

    /** What the text of a TOWN tells: tempers, interest, the first BITE and the first CLAIMS. */
    private static final class Town {
        private static final String CLAUSES = "person wrong false interest bite";
        private static final int PERSON = 0;
        private static final int WRONG = 1;
        private static final int FALSE = 2;
        private static final int INTEREST = 3;

        private final int[] tempers = new int[MOST_PEOPLE];
        private final int[] debtors = new int[TOWN_CLAIMS];
        private final int[] holders = new int[TOWN_CLAIMS];
        private final int[] sizes = new int[TOWN_CLAIMS];
        private final int[] truths = new int[TOWN_CLAIMS];
        private int people;
        private int claims;
        private int interest = 10;
        private int firstBite = 30;

        void read(Tape tape) {
            people = 0;
            claims = 0;
            interest = 10;
            firstBite = 30;
            for (int i = 0; i <= MOST_CLAUSES && tape.hasMore(); i++) {
                readClause(tape, i);
            }
        }

        private void readClause(Tape tape, int index) {
            int which = tape.word(CLAUSES);
            boolean full = index >= MOST_CLAUSES
                    || which == PERSON && people >= MOST_PEOPLE
                    || (which == WRONG || which == FALSE) && claims >= TOWN_CLAIMS;
            if (full) {
                tape.blame(FAULT_MANY, tape.mark);
            }
            if (tape.isFaulty()) {
                return;
            }
            switch (which) {
                case PERSON:
                    readPerson(tape);
                    break;
                case WRONG:
                case FALSE:
                    readClaim(tape, which == WRONG ? 1 : 0);
                    break;
                case INTEREST:
                    interest = tape.number(0, 50);
                    break;
                default:
                    firstBite = tape.number(0, MOST_BITE);
                    break;
            }
            tape.needSign(';');
        }

        private void readPerson(Tape tape) {
            int temper = tape.number(0, 9);
            if (people >= 0 && people < tempers.length) {
                tempers[people] = temper;
                people++;
            }
        }

        private void readClaim(Tape tape, int truth) {
            int on = tape.number(0, people - 1);
            int by = tape.numberBut(on, 0, people - 1);
            int size = tape.number(1, MOST_TOLD_SIZE);
            if (claims >= 0 && claims < TOWN_CLAIMS) {
                debtors[claims] = on;
                holders[claims] = by;
                sizes[claims] = size;
                truths[claims] = truth;
                claims++;
            }
        }

        void copyFrom(Town other) {
            System.arraycopy(other.tempers, 0, tempers, 0, MOST_PEOPLE);
            System.arraycopy(other.debtors, 0, debtors, 0, TOWN_CLAIMS);
            System.arraycopy(other.holders, 0, holders, 0, TOWN_CLAIMS);
            System.arraycopy(other.sizes, 0, sizes, 0, TOWN_CLAIMS);
            System.arraycopy(other.truths, 0, truths, 0, TOWN_CLAIMS);
            people = other.people;
            claims = other.claims;
            interest = other.interest;
            firstBite = other.firstBite;
        }

        /** The ledger is as on DAY 0. */
        void settle(Ledger ledger) {
            ledger.clear();
            for (int i = 0; i < claims && i < TOWN_CLAIMS; i++) {
                ledger.add(debtors[i], holders[i], sizes[i], truths[i]);
            }
        }

        int temperOf(int person) {
            return person >= 0 && person < tempers.length ? tempers[person] : 0;
        }
    }

    /** A LAW as code for a stack: numbers below VALUE push themselves, then the told values, then operations. */
    private static final class Law {
        private static final String WORDS = "size age temper heat passed told day held least most";
        private static final int VALUES = 8;
        private static final int LEAST_WORD = 8;
        private static final int BRACKET = 10;
        private static final int VALUE = 1000;
        private static final int ADD = 2000;
        private static final int TAKE = 2001;
        private static final int TIMES = 2002;
        private static final int OVER = 2003;
        private static final int LEAST = 2004;
        private static final int MOST = 2005;
        private static final int[] WITHOUT = {50, 5, VALUE + 2, TIMES, ADD, VALUE + 5, TAKE};

        private final int[] code = new int[LAW_BYTES];
        private int length;
        /** Seven levels leave three values each open at most. */
        private final int[] stack = new int[32];

        Law() {
            System.arraycopy(WITHOUT, 0, code, 0, WITHOUT.length);
            length = WITHOUT.length;
        }

        void reset() {
            System.arraycopy(WITHOUT, 0, code, 0, WITHOUT.length);
            length = WITHOUT.length;
        }

        void copyFrom(Law other) {
            System.arraycopy(other.code, 0, code, 0, LAW_BYTES);
            length = other.length;
        }

        void read(Tape tape) {
            length = 0;
            readSum(tape, 0);
            if (tape.hasMore()) {
                tape.blame(FAULT_PLACE, tape.at);
            }
        }

        private void readSum(Tape tape, int nested) {
            readProduct(tape, nested);
            for (int i = 0; i < LAW_BYTES; i++) {
                int operation = tape.takes('+') ? ADD : tape.takes('-') ? TAKE : NONE;
                if (operation == NONE) {
                    return;
                }
                readProduct(tape, nested);
                emit(operation);
            }
        }

        private void readProduct(Tape tape, int nested) {
            readUnit(tape, nested);
            for (int i = 0; i < LAW_BYTES; i++) {
                int operation = tape.takes('*') ? TIMES : tape.takes('/') ? OVER : NONE;
                if (operation == NONE) {
                    return;
                }
                readUnit(tape, nested);
                emit(operation);
            }
        }

        private void readUnit(Tape tape, int nested) {
            int c = tape.isFaulty() ? NONE : tape.next();
            if (Tape.isDigit(c)) {
                emit(tape.number(0, 999));
                return;
            }
            int which = c == '(' ? BRACKET : tape.word(WORDS);
            if (which >= LEAST_WORD && nested >= MOST_NESTED) {
                tape.blame(FAULT_MANY, c == '(' ? tape.at : tape.mark);
            }
            if (tape.isFaulty()) {
                return;
            }
            if (which < LEAST_WORD) {
                emit(VALUE + which);
            } else if (which == BRACKET) {
                tape.needSign('(');
                readSum(tape, nested + 1);
                tape.needSign(')');
            } else {
                tape.needSign('[');
                readSum(tape, nested + 1);
                tape.needSign(',');
                readSum(tape, nested + 1);
                tape.needSign(']');
                emit(which == LEAST_WORD ? LEAST : MOST);
            }
        }

        private void emit(int c) {
            if (length >= 0 && length < code.length) {
                code[length] = c;
                length++;
            }
        }

        /** MEANT by the told values, in the order of WORDS. */
        int meantBy(int[] values) {
            int top = 0;
            for (int i = 0; i < length && i < code.length; i++) {
                int c = code[i];
                int v = c - VALUE;
                if (c < ADD && top < stack.length) {
                    stack[top] = v >= 0 && v < values.length ? values[v] : c;
                    top++;
                } else if (c >= ADD && top >= 2) {
                    stack[top - 2] = combine(c, stack[top - 2], stack[top - 1]);
                    top--;
                }
            }
            return Math.max(0, Math.min(MOST_MEANT, stack[0]));
        }

        private static int combine(int operation, int a, int b) {
            switch (operation) {
                case ADD:
                    return a + b;
                case TAKE:
                    return a - b;
                case TIMES:
                    return a * b;
                case OVER:
                    return b == 0 ? 0 : a / b;
                case LEAST:
                    return a <= b ? a : b;
                default:
                    return a >= b ? a : b;
            }
        }
    }

    /** All CLAIMS that were made, the DAY, and what was made and went in all. */
    private static final class Ledger {
        private static final int TOTALS = 5;
        private static final int ALL_MADE = 1;

        private final int[] cells = new int[FIELDS * MOST_CLAIMS];
        /** By the numbers of sums(): the one of what went is its FATE and 1 more. */
        private final int[] totals = new int[TOTALS];
        private int made;
        private int day;

        void clear() {
            made = 0;
            day = 0;
            Arrays.fill(totals, 0);
        }

        void copyFrom(Ledger other) {
            System.arraycopy(other.cells, 0, cells, 0, FIELDS * MOST_CLAIMS);
            System.arraycopy(other.totals, 0, totals, 0, TOTALS);
            made = other.made;
            day = other.day;
        }

        int get(int field, int k) {
            boolean there = field >= 0 && field < FIELDS && k >= 0 && k < MOST_CLAIMS;
            return there ? cells[field * MOST_CLAIMS + k] : 0;
        }

        private void set(int field, int k, int value) {
            if (field >= 0 && field < FIELDS && k >= 0 && k < MOST_CLAIMS) {
                cells[field * MOST_CLAIMS + k] = value;
            }
        }

        int totalOf(int what) {
            return what >= 0 && what < TOTALS ? totals[what] : 0;
        }

        boolean isStanding(int k) {
            return k >= 0 && k < made && get(FATE, k) == STANDS;
        }

        boolean add(int on, int holder, int size, int truth) {
            if (made < 0 || made >= MOST_CLAIMS) {
                return false;
            }
            set(ON, made, on);
            set(HOLDER, made, holder);
            set(SIZE, made, size);
            set(MADE, made, day);
            set(PASSED, made, 0);
            set(TOLD, made, 0);
            set(TRUTH, made, truth);
            set(FATE, made, STANDS);
            set(LAST_TOLD, made, NONE);
            made++;
            totals[ALL_MADE] += size;
            return true;
        }

        boolean end(int k, int fate) {
            if (!isStanding(k)) {
                return false;
            }
            set(FATE, k, fate);
            if (fate >= PAID && fate <= HOME) {
                totals[fate + 1] += get(SIZE, k);
            }
            return true;
        }

        boolean give(int k, int to) {
            if (!isStanding(k) || get(HOLDER, k) == to) {
                return false;
            }
            set(HOLDER, k, to);
            set(PASSED, k, get(PASSED, k) + 1);
            if (get(ON, k) == to) {
                end(k, HOME);
            }
            return true;
        }

        boolean split(int k, int n) {
            int size = get(SIZE, k);
            if (!isStanding(k) || size <= n || made >= MOST_CLAIMS) {
                return false;
            }
            for (int field = 0; field < FIELDS; field++) {
                set(field, made, get(field, k));
            }
            set(SIZE, k, n);
            set(SIZE, made, size - n);
            made++;
            return true;
        }

        boolean join(int k, int j) {
            if (k == j || !isStanding(k) || !isStanding(j)) {
                return false;
            }
            boolean alike = get(ON, k) == get(ON, j) && get(HOLDER, k) == get(HOLDER, j)
                    && get(TRUTH, k) == get(TRUTH, j);
            int size = get(SIZE, k) + get(SIZE, j);
            if (!alike || size > MOST_SIZE) {
                return false;
            }
            set(SIZE, k, size);
            end(j, JOINED);
            return true;
        }

        boolean tell(int k, int interest) {
            if (!isStanding(k) || get(LAST_TOLD, k) == day) {
                return false;
            }
            int size = sizeAfter(k, 1, interest);
            totals[ALL_MADE] += size - get(SIZE, k);
            set(SIZE, k, size);
            set(TOLD, k, get(TOLD, k) + 1);
            set(LAST_TOLD, k, day);
            return true;
        }

        int sizeAfter(int k, int days, int interest) {
            int size = get(SIZE, k);
            for (int i = 0; i < days && size < MOST_SIZE; i++) {
                size = Math.min(MOST_SIZE, size + Math.max(1, size * interest / 100));
            }
            return size;
        }

        int swollen(int days, int interest) {
            int sum = 0;
            for (int k = 0; k < made; k++) {
                sum += isStanding(k) ? sizeAfter(k, days, interest) : 0;
            }
            return sum;
        }

        int standing() {
            int many = 0;
            for (int k = 0; k < made; k++) {
                many += isStanding(k) ? 1 : 0;
            }
            return many;
        }

        int standingSorrows() {
            int sum = 0;
            for (int k = 0; k < made; k++) {
                sum += isStanding(k) ? get(SIZE, k) : 0;
            }
            return sum;
        }

        /** Of CLAIMS that STAND, with the PERSON in the field (ON or HOLDER), the sorrows. */
        int sorrows(int field, int person) {
            int sum = 0;
            for (int k = 0; k < made; k++) {
                sum += isStanding(k) && get(field, k) == person ? get(SIZE, k) : 0;
            }
            return sum;
        }

        int howMany(int field, int person) {
            int many = 0;
            for (int k = 0; k < made; k++) {
                many += isStanding(k) && get(field, k) == person ? 1 : 0;
            }
            return many;
        }

        int owed(int on, int holder) {
            int sum = 0;
            for (int k = 0; k < made; k++) {
                if (isStanding(k) && get(ON, k) == on && get(HOLDER, k) == holder) {
                    sum += get(SIZE, k);
                }
            }
            return sum;
        }

        int worthOf(int person, boolean truly) {
            int sum = 0;
            for (int k = 0; k < made; k++) {
                if (isStanding(k) && (!truly || get(TRUTH, k) == 1)) {
                    sum += share(k, person);
                }
            }
            return sum;
        }

        /** What the CLAIM brings to the WORTH of the PERSON. */
        int share(int k, int person) {
            int size = get(SIZE, k);
            return (get(HOLDER, k) == person ? size : 0) - (get(ON, k) == person ? size : 0);
        }

        /** The first PERSON of the greatest WORTH (sign 1) or the least one (-1). */
        int extremePerson(int people, int sign) {
            int first = NONE;
            int most = 0;
            for (int p = 0; p < people; p++) {
                int value = sign * worthOf(p, false);
                if (first == NONE || value > most) {
                    first = p;
                    most = value;
                }
            }
            return first;
        }

        int oldest() {
            int first = NONE;
            for (int k = 0; k < made; k++) {
                if (isStanding(k) && (first == NONE || get(MADE, k) < get(MADE, first))) {
                    first = k;
                }
            }
            return first;
        }

        int greatest() {
            int first = NONE;
            for (int k = 0; k < made; k++) {
                if (isStanding(k) && (first == NONE || get(SIZE, k) > get(SIZE, first))) {
                    first = k;
                }
            }
            return first;
        }

        long madeAgo(int days) {
            long bits = 0;
            for (int k = 0; k < made; k++) {
                if (isStanding(k) && day - get(MADE, k) >= days) {
                    bits |= 1L << k;
                }
            }
            return bits;
        }
    }

    /** How much is MEANT, and what the BITE makes of it. */
    private static final class Judge {
        private final Town town;
        private final Law law;
        private final Ledger ledger;
        private final int[] values = new int[Law.VALUES];
        private final int[] weights = new int[MOST_CLAIMS];
        private int bite = 30;

        Judge(Town town, Law law, Ledger ledger) {
            this.town = town;
            this.law = law;
            this.ledger = ledger;
        }

        int weigh(int k) {
            return weighHeld(k, ledger.howMany(HOLDER, ledger.get(HOLDER, k)));
        }

        private int weighHeld(int k, int held) {
            values[0] = ledger.get(SIZE, k);
            values[1] = ledger.day - ledger.get(MADE, k);
            values[2] = town.temperOf(ledger.get(ON, k));
            values[3] = town.temperOf(ledger.get(HOLDER, k));
            values[4] = ledger.get(PASSED, k);
            values[5] = ledger.get(TOLD, k);
            values[6] = ledger.day;
            values[7] = held;
            return law.meantBy(values);
        }

        int imagine(int size, int age, int temper, int heat, int told) {
            values[0] = size;
            values[1] = age;
            values[2] = temper;
            values[3] = heat;
            values[4] = 0;
            values[5] = told;
            values[6] = 0;
            values[7] = 0;
            return law.meantBy(values);
        }

        boolean wouldPay(int k) {
            return ledger.isStanding(k) && weigh(k) >= bite;
        }

        long openClaims() {
            long bits = 0;
            for (int k = 0; k < ledger.made; k++) {
                if (wouldPay(k)) {
                    bits |= 1L << k;
                }
            }
            return bits;
        }

        int hearAll(int person) {
            int held = ledger.howMany(HOLDER, person);
            int sum = 0;
            for (int k = 0; k < ledger.made; k++) {
                if (ledger.isStanding(k) && ledger.get(HOLDER, k) == person && weighHeld(k, held) >= bite) {
                    sum += ledger.get(SIZE, k);
                    held--;
                }
            }
            return sum;
        }

        int sweetest() {
            int first = NONE;
            int most = NONE;
            for (int k = 0; k < ledger.made; k++) {
                int weight = ledger.isStanding(k) ? weigh(k) : NONE;
                if (weight > most) {
                    first = k;
                    most = weight;
                }
            }
            return first;
        }

        /** Once ahead of errorsAt(), which is asked for many bites. */
        void weighAll() {
            for (int k = 0; k < weights.length; k++) {
                weights[k] = ledger.isStanding(k) ? weigh(k) : NONE;
            }
        }

        /** True CLAIMS not PAID (truth 1), or false ones PAID (0), by the weights of weighAll(). */
        int errorsAt(int asked, int truth) {
            int many = 0;
            for (int k = 0; k < weights.length; k++) {
                boolean counts = weights[k] != NONE && ledger.get(TRUTH, k) == truth;
                many += counts && (weights[k] < asked) == (truth == 1) ? 1 : 0;
            }
            return many;
        }

        int leastErring() {
            weighAll();
            int first = 0;
            int fewest = MOST_CLAIMS + 1;
            for (int asked = 0; asked <= MOST_BITE; asked++) {
                int many = errorsAt(asked, 1) + errorsAt(asked, 0);
                if (many < fewest) {
                    fewest = many;
                    first = asked;
                }
            }
            return first;
        }
    }

    /** What sums the CLAIMS of one PERSON make. */
    private static final class Purse {
        /** A least sum that is no less than N is below N without any one of its CLAIMS: this bounds it. */
        private static final int SUMS = 20032;
        private static final int WORDS = SUMS / 64;
        private static final int BITS_SHIFT = MOST_CLAIMS;

        private final Ledger ledger;
        private final long[] reach = new long[WORDS];
        /** By sum: how many CLAIMS at the fewest, then their bits; -1: none make it. */
        private final long[] least = new long[MOST_TOLD_SIZE + 1];

        Purse(Ledger ledger) {
            this.ledger = ledger;
        }

        /** The bits of the fewest CLAIMS, the first of alike ones; 0: none. */
        long fewest(int from, int to, int n) {
            if (n < 1 || n >= least.length) {
                return 0;
            }
            Arrays.fill(least, 0, n + 1, -1L);
            least[0] = 0;
            // downwards, so that of alike ones what takes the lower number replaces what does not
            for (int k = ledger.made - 1; k >= 0; k--) {
                boolean fits = ledger.isStanding(k) && ledger.get(HOLDER, k) == from && ledger.get(ON, k) != to;
                if (fits) {
                    addChoice(k, ledger.get(SIZE, k), n);
                }
            }
            return least[n] < 0 ? 0 : least[n] & ((1L << BITS_SHIFT) - 1);
        }

        private void addChoice(int k, int size, int n) {
            long one = (1L << BITS_SHIFT) + (1L << k);
            for (int sum = n; sum >= size && size > 0 && sum < least.length; sum--) {
                long before = least[sum - size];
                long with = before + one;
                if (before >= 0 && (least[sum] < 0 || (with >> BITS_SHIFT) <= (least[sum] >> BITS_SHIFT))) {
                    least[sum] = with;
                }
            }
        }

        /** Fills reach with the sums that the PERSON can make; answers the greatest of all. */
        private int reachAll(int person) {
            Arrays.fill(reach, 0L);
            reach[0] = 1;
            int total = 0;
            for (int k = 0; k < ledger.made; k++) {
                if (ledger.isStanding(k) && ledger.get(HOLDER, k) == person) {
                    total += ledger.get(SIZE, k);
                    reachFurther(ledger.get(SIZE, k), Math.min(total / 64, WORDS - 1));
                }
            }
            return total;
        }

        private void reachFurther(int size, int top) {
            int words = size >> 6;
            int bits = size & 63;
            for (int i = top; i >= words && i < reach.length && words >= 0; i--) {
                int low = i - words;
                long moved = reach[low] << bits;
                if (bits > 0 && low > 0) {
                    moved |= reach[low - 1] >>> (64 - bits);
                }
                reach[i] |= moved;
            }
        }

        private boolean canMake(int sum) {
            return sum >= 0 && sum < SUMS && ((reach[sum >> 6] >>> (sum & 63)) & 1L) != 0;
        }

        int leastFrom(int person, int n) {
            int total = reachAll(person);
            for (int sum = n; sum < SUMS && sum <= total; sum++) {
                if (canMake(sum)) {
                    return sum;
                }
            }
            return NONE;
        }

        int mostUpTo(int person, int n) {
            reachAll(person);
            for (int sum = n; sum > 0; sum--) {
                if (canMake(sum)) {
                    return sum;
                }
            }
            return 0;
        }

        int howManySums(int person) {
            int total = reachAll(person);
            int many = 0;
            for (int sum = 1; sum <= MOST_SIZE && sum <= total; sum++) {
                many += canMake(sum) ? 1 : 0;
            }
            return many;
        }
    }

    /** A row of DEEDS: read as a whole, then done one by one. */
    private static final class Deeds {
        private static final String WORDS = "day slap pass split join tell sorry wrongly forgive pay";
        private static final int DAY = 0;
        private static final int SLAP = 1;
        private static final int PASS = 2;
        private static final int SPLIT = 3;
        private static final int JOIN = 4;
        private static final int TELL = 5;
        private static final int SORRY = 6;
        private static final int WRONGLY = 7;
        private static final int FORGIVE = 8;
        private static final int PARTS = 4;

        private final Town town;
        private final Ledger ledger;
        private final Judge judge;
        private final Purse purse;
        /** Of each DEED its word and up to three numbers. */
        private final int[] parts = new int[MOST_DEEDS * PARTS];
        private int length;
        private int refused;

        Deeds(Town town, Ledger ledger, Judge judge, Purse purse) {
            this.town = town;
            this.ledger = ledger;
            this.judge = judge;
            this.purse = purse;
        }

        void read(Tape tape) {
            length = 0;
            for (int i = 0; i <= MOST_DEEDS && tape.hasMore(); i++) {
                readDeed(tape, i);
            }
        }

        private void readDeed(Tape tape, int index) {
            int which = tape.word(WORDS);
            if (index >= MOST_DEEDS) {
                tape.blame(FAULT_MANY, tape.mark);
            }
            if (tape.isFaulty()) {
                return;
            }
            switch (which) {
                case DAY:
                    keep(which, tape.number(1, 30), 0, 0);
                    break;
                case PASS:
                case WRONGLY:
                    keep(which, readNumber(tape), tape.number(0, town.people - 1), 0);
                    break;
                case SPLIT:
                    keep(which, readNumber(tape), tape.number(1, MOST_TOLD_SIZE), 0);
                    break;
                case JOIN:
                    readJoin(tape);
                    break;
                case TELL:
                case SORRY:
                case FORGIVE:
                    keep(which, readNumber(tape), 0, 0);
                    break;
                default:
                    readPair(tape, which);
                    break;
            }
            tape.needSign(';');
        }

        private static int readNumber(Tape tape) {
            return tape.number(0, MOST_CLAIMS - 1);
        }

        private void readJoin(Tape tape) {
            int k = readNumber(tape);
            keep(JOIN, k, tape.numberBut(k, 0, MOST_CLAIMS - 1), 0);
        }

        /** Of slap and pay: A B N. */
        private void readPair(Tape tape, int which) {
            int a = tape.number(0, town.people - 1);
            int b = tape.numberBut(a, 0, town.people - 1);
            keep(which, a, b, tape.number(1, MOST_TOLD_SIZE));
        }

        private void keep(int which, int a, int b, int c) {
            int i = length * PARTS;
            if (i >= 0 && i + 3 < parts.length) {
                parts[i] = which;
                parts[i + 1] = a;
                parts[i + 2] = b;
                parts[i + 3] = c;
                length++;
            }
        }

        /** How many were done. */
        int perform() {
            int done = 0;
            for (int i = 0; i < length && i < MOST_DEEDS; i++) {
                int at = i * PARTS;
                done += act(parts[at], parts[at + 1], parts[at + 2], parts[at + 3]) ? 1 : 0;
            }
            refused = length - done;
            return done;
        }

        private boolean act(int which, int a, int b, int c) {
            switch (which) {
                case DAY:
                    ledger.day += a;
                    return true;
                case SLAP:
                    return ledger.add(a, b, c, 1);
                case PASS:
                    return ledger.give(a, b);
                case SPLIT:
                    return ledger.split(a, b);
                case JOIN:
                    return ledger.join(a, b);
                case TELL:
                    return ledger.tell(a, town.interest);
                case SORRY:
                    return judge.wouldPay(a) && ledger.end(a, PAID);
                case WRONGLY:
                    return sayWrongly(a, b);
                case FORGIVE:
                    return ledger.end(a, BURNT);
                default:
                    return payWith(purse.fewest(a, b, c), b);
            }
        }

        private boolean sayWrongly(int k, int person) {
            int holder = ledger.get(HOLDER, k);
            boolean fits = ledger.isStanding(k) && ledger.get(ON, k) != person && holder != person;
            return fits && ledger.add(person, holder, 1, 1);
        }

        private boolean payWith(long bits, int to) {
            for (int k = 0; k < MOST_CLAIMS; k++) {
                if (((bits >>> k) & 1L) != 0) {
                    ledger.give(k, to);
                }
            }
            return bits != 0;
        }
    }

    /** A BOOK of WORTHS, and the search for the CLAIMS that are false by it. */
    private static final class Book {
        private final int[] persons = new int[MOST_LINES];
        private final int[] worths = new int[MOST_LINES];
        private int lines;

        private final int[] judged = new int[MOST_JUDGED];
        private final int[] debtors = new int[MOST_JUDGED];
        private final int[] holders = new int[MOST_JUDGED];
        private final int[] sizes = new int[MOST_JUDGED];
        private int judgedCount;
        /** By PERSON: whether a line tells of him, and what false ones must still bring to his WORTH. */
        private final boolean[] booked = new boolean[MOST_PEOPLE];
        private final int[] needed = new int[MOST_PEOPLE];
        /** By how many of the judged are undecided, then by PERSON: the least and the most these can bring. */
        private final int[] low = new int[(MOST_JUDGED + 1) * MOST_PEOPLE];
        private final int[] high = new int[(MOST_JUDGED + 1) * MOST_PEOPLE];
        private int foundCount;
        private long foundBits;

        void read(Tape tape, int people) {
            lines = 0;
            for (int i = 0; i <= MOST_LINES && tape.hasMore(); i++) {
                readLine(tape, people);
            }
        }

        private void readLine(Tape tape, int people) {
            int person = tape.number(0, people - 1);
            if (lines >= MOST_LINES) {
                tape.blame(FAULT_MANY, tape.mark);
            }
            if (tape.isFaulty()) {
                return;
            }
            int sign = tape.takes('-') ? -1 : 1;
            int size = tape.number(0, 9999);
            tape.needSign(';');
            if (lines >= 0 && lines < MOST_LINES) {
                persons[lines] = person;
                worths[lines] = sign * size;
                lines++;
            }
        }

        void copyFrom(Book other) {
            System.arraycopy(other.persons, 0, persons, 0, MOST_LINES);
            System.arraycopy(other.worths, 0, worths, 0, MOST_LINES);
            lines = other.lines;
        }

        int rightLines(Ledger ledger) {
            for (int i = 0; i < lines && i < MOST_LINES; i++) {
                if (ledger.worthOf(persons[i], true) != worths[i]) {
                    return i;
                }
            }
            return lines;
        }

        boolean hasFound() {
            return foundCount <= MOST_JUDGED;
        }

        void seekFalse(Ledger ledger) {
            foundCount = MOST_JUDGED + 1;
            foundBits = 0;
            gather(ledger);
            if (!fillNeeded(ledger)) {
                return;
            }
            fillBounds();
            for (int p = 0; p < MOST_PEOPLE; p++) {
                if (!canFit(judgedCount, p)) {
                    return;
                }
            }
            seek(this, judgedCount, 0, 0L);
        }

        private void gather(Ledger ledger) {
            judgedCount = 0;
            for (int k = 0; k < ledger.made; k++) {
                if (ledger.isStanding(k) && judgedCount < MOST_JUDGED) {
                    judged[judgedCount] = k;
                    debtors[judgedCount] = ledger.get(ON, k);
                    holders[judgedCount] = ledger.get(HOLDER, k);
                    sizes[judgedCount] = ledger.get(SIZE, k);
                    judgedCount++;
                }
            }
        }

        /** False, if two lines tell of one PERSON what can't be both. */
        private boolean fillNeeded(Ledger ledger) {
            Arrays.fill(needed, 0);
            for (int p = 0; p < MOST_PEOPLE; p++) {
                booked[p] = false;
            }
            for (int i = 0; i < lines && i < MOST_LINES; i++) {
                int p = persons[i];
                if (p < 0 || p >= MOST_PEOPLE) {
                    return false;
                }
                int gap = ledger.worthOf(p, false) - worths[i];
                if (booked[p] && needed[p] != gap) {
                    return false;
                }
                booked[p] = true;
                needed[p] = gap;
            }
            return true;
        }

        private void fillBounds() {
            Arrays.fill(low, 0, MOST_PEOPLE, 0);
            Arrays.fill(high, 0, MOST_PEOPLE, 0);
            for (int i = 0; i < judgedCount && i < MOST_JUDGED; i++) {
                int at = (i + 1) * MOST_PEOPLE;
                for (int p = 0; p < MOST_PEOPLE; p++) {
                    low[at + p] = low[at + p - MOST_PEOPLE] - (debtors[i] == p ? sizes[i] : 0);
                    high[at + p] = high[at + p - MOST_PEOPLE] + (holders[i] == p ? sizes[i] : 0);
                }
            }
        }

        private boolean canFit(int undecided, int p) {
            if (!isIn(p, 0, MOST_PEOPLE - 1) || !isIn(undecided, 0, MOST_JUDGED)) {
                return false;
            }
            int at = undecided * MOST_PEOPLE + p;
            return !booked[p] || low[at] <= needed[p] && needed[p] <= high[at];
        }

        private void take(int i, int times) {
            int on = debtors[i];
            int by = holders[i];
            if (isIn(on, 0, MOST_PEOPLE - 1) && isIn(by, 0, MOST_PEOPLE - 1)) {
                needed[on] += times * sizes[i];
                needed[by] -= times * sizes[i];
            }
        }

        /** Decides from the highest number down, left out first: so sets come by bits, the least first. */
        private static void seek(Book book, int undecided, int taken, long bits) {
            if (taken >= book.foundCount || undecided > MOST_JUDGED) {
                return;
            }
            if (undecided <= 0) {
                book.foundCount = taken;
                book.foundBits = bits;
                return;
            }
            int i = undecided - 1;
            if (book.canFit(i, book.debtors[i]) && book.canFit(i, book.holders[i])) {
                seek(book, i, taken, bits);
            }
            book.take(i, 1);
            if (book.canFit(i, book.debtors[i]) && book.canFit(i, book.holders[i])) {
                seek(book, i, taken + 1, bits | (1L << book.judged[i]));
            }
            book.take(i, -1);
        }
    }

    /** What PEOPLE do together, by sets of PEOPLE as bits: EVEN with its GROUPS, and ONE DAY. */
    private static final class Crowd {
        private static final int SETS = 1 << MOST_PEOPLE;

        private final Town town;
        private final Ledger ledger;
        private final Judge judge;
        /** By set: its WORTHS together, and in how many groups it goes at the most. */
        private final int[] setWorths = new int[SETS];
        private final int[] setGroups = new int[SETS];
        private final int[] groups = new int[MOST_PEOPLE];
        private int uneven;
        private int groupCount;
        /** By who says it and who hears it: the CLAIM; by who says it: the CLAIM of the way that is taken. */
        private final int[] offers = new int[MOST_PEOPLE * MOST_PEOPLE];
        private final int[] said = new int[MOST_PEOPLE];
        /** By the first PERSON left, then by the set of those who heard one: the most sorrows to come. */
        private final int[] most = new int[(MOST_PEOPLE + 1) * SETS];

        Crowd(Town town, Ledger ledger, Judge judge) {
            this.town = town;
            this.ledger = ledger;
            this.judge = judge;
        }

        int unevenPeople() {
            return Integer.bitCount(uneven);
        }

        int groupAt(int i) {
            return i >= 0 && i < groupCount && i < MOST_PEOPLE ? groups[i] : NONE;
        }

        void settle() {
            uneven = 0;
            setWorths[0] = 0;
            setGroups[0] = 0;
            for (int p = 0; p < town.people && p < MOST_PEOPLE; p++) {
                int worth = ledger.worthOf(p, false);
                setWorths[1 << p] = worth;
                uneven |= worth != 0 ? 1 << p : 0;
            }
            for (int set = 1; set < SETS; set++) {
                if ((set & ~uneven) == 0) {
                    weighSet(set);
                }
            }
            listGroups();
        }

        private void weighSet(int set) {
            int first = set & -set;
            int rest = set ^ first;
            setWorths[set] = setWorths[first] + setWorths[rest];
            setGroups[set] = 0;
            if (setWorths[set] != 0) {
                return;
            }
            for (int part = first; part <= set; part++) {
                if (isGroupOf(part, set)) {
                    setGroups[set] = Math.max(setGroups[set], 1 + setGroups[set ^ part]);
                }
            }
        }

        /** Whether the part holds the first of the set, none besides the set, and WORTHS that are 0 together. */
        private boolean isGroupOf(int part, int set) {
            return (part & set & -set) != 0 && (part & ~set) == 0 && setWorths[part] == 0;
        }

        private void listGroups() {
            groupCount = 0;
            int left = uneven;
            for (int i = 0; i < MOST_PEOPLE && left != 0; i++) {
                int part = firstGroup(left);
                groups[i] = part;
                groupCount++;
                left ^= part;
            }
        }

        private int firstGroup(int left) {
            for (int part = 1; part < left; part++) {
                if (isGroupOf(part, left) && 1 + setGroups[left ^ part] == setGroups[left]) {
                    return part;
                }
            }
            return left;
        }

        int mostPaid() {
            return most[0];
        }

        int saidBy(int person) {
            return person >= 0 && person < MOST_PEOPLE ? said[person] : NONE;
        }

        void meet() {
            gatherOffers();
            int people = Math.min(town.people, MOST_PEOPLE);
            Arrays.fill(most, people * SETS, (people + 1) * SETS, 0);
            for (int p = people - 1; p >= 0; p--) {
                for (int heard = 0; heard < 1 << people; heard++) {
                    most[p * SETS + heard] = mostFrom(p, heard);
                }
            }
            chooseWay(people);
        }

        private void gatherOffers() {
            Arrays.fill(offers, NONE);
            for (int k = 0; k < ledger.made; k++) {
                int at = ledger.get(ON, k) * MOST_PEOPLE + ledger.get(HOLDER, k);
                if (at >= 0 && at < offers.length && judge.wouldPay(k) && ledger.get(SIZE, k) > sizeOf(offers[at])) {
                    offers[at] = k;
                }
            }
        }

        private int sizeOf(int k) {
            return k == NONE ? 0 : ledger.get(SIZE, k);
        }

        private int mostFrom(int p, int heard) {
            int best = most[(p + 1) * SETS + heard];
            for (int h = 0; h < MOST_PEOPLE; h++) {
                if (offers[p * MOST_PEOPLE + h] != NONE && ((heard >> h) & 1) == 0) {
                    best = Math.max(best, mostWith(p, h, heard));
                }
            }
            return best;
        }

        private int mostWith(int p, int h, int heard) {
            return sizeOf(offers[p * MOST_PEOPLE + h]) + most[(p + 1) * SETS + (heard | (1 << h))];
        }

        private void chooseWay(int people) {
            Arrays.fill(said, NONE);
            int heard = 0;
            for (int p = 0; p < people; p++) {
                int hearer = firstHearer(p, heard);
                if (hearer != NONE) {
                    said[p] = offers[p * MOST_PEOPLE + hearer];
                    heard |= 1 << hearer;
                }
            }
        }

        /** NONE, if the most can be paid without a word of the PERSON. */
        private int firstHearer(int p, int heard) {
            int due = most[p * SETS + heard];
            if (most[(p + 1) * SETS + heard] == due) {
                return NONE;
            }
            for (int h = 0; h < MOST_PEOPLE; h++) {
                boolean free = offers[p * MOST_PEOPLE + h] != NONE && ((heard >> h) & 1) == 0;
                if (free && mostWith(p, h, heard) == due) {
                    return h;
                }
            }
            return NONE;
        }
    }

    /** MONTHS by SEEDS, in a world of their own. */
    private static final class Months {
        private final Town town;
        private final Ledger ledger;
        private final Ledger world = new Ledger();
        private int seed;
        private int forgiven;

        Months(Town town, Ledger ledger) {
            this.town = town;
            this.ledger = ledger;
        }

        void run(int firstSeed, int days, int q, int z) {
            world.copyFrom(ledger);
            seed = firstSeed;
            forgiven = 0;
            for (int i = 0; i < days; i++) {
                world.day++;
                for (int p = 0; p < town.people; p++) {
                    if (draw(16) < q && town.people > 1) {
                        slapFrom(p);
                    }
                }
                if (draw(16) < z) {
                    sendSaint();
                }
            }
        }

        int richest() {
            return world.extremePerson(town.people, 1);
        }

        private int draw(int by) {
            seed = seed * 1103515245 + 12345;
            int drawn = (seed >>> 16) & 32767;
            return by > 0 ? drawn % by : 0;
        }

        private void slapFrom(int p) {
            int steps = draw(town.people - 1) + 1;
            int size = draw(9) + 1;
            int whom = p + steps < town.people ? p + steps : p + steps - town.people;
            world.add(p, whom, size, 1);
        }

        private void sendSaint() {
            int k = world.greatest();
            if (world.end(k, BURNT)) {
                forgiven += world.get(SIZE, k);
            }
        }
    }

    /** Ledgers of earlier times: one ahead of each row of DEEDS, and those of IMAGES with their rows. */
    private static final class History {
        private final Ledger[] rows = new Ledger[MOST_ROWS];
        private int depth;
        private final Ledger[] imageLedgers = new Ledger[MOST_IMAGES];
        private final Ledger[] imageRows = new Ledger[MOST_IMAGES * MOST_ROWS];
        private final int[] imageDepths = new int[MOST_IMAGES];
        private final int[] imageBites = new int[MOST_IMAGES];
        private int images;

        void forget() {
            depth = 0;
            images = 0;
        }

        void push(Ledger now) {
            if (depth < MOST_ROWS) {
                store(rows, depth, now);
                depth++;
            }
        }

        void pop(Ledger now) {
            if (depth > 0) {
                depth--;
                fetch(rows, depth, now);
            }
        }

        void takeImage(Ledger now, int bite) {
            if (images < 0 || images >= MOST_IMAGES) {
                return;
            }
            store(imageLedgers, images, now);
            for (int i = 0; i < depth && i < MOST_ROWS; i++) {
                store(imageRows, images * MOST_ROWS + i, rows[i]);
            }
            imageDepths[images] = depth;
            imageBites[images] = bite;
            images++;
        }

        /** The latest image is as now and gone; answers its BITE. */
        int giveBack(Ledger now) {
            if (images <= 0 || images > MOST_IMAGES) {
                return 0;
            }
            images--;
            fetch(imageLedgers, images, now);
            depth = imageDepths[images];
            for (int i = 0; i < depth && i < MOST_ROWS; i++) {
                store(rows, i, imageRows[images * MOST_ROWS + i]);
            }
            return imageBites[images];
        }

        /** Ledgers are made when they are first needed, and used again from then on. */
        private static void store(Ledger[] shelf, int i, Ledger from) {
            if (from == null || i < 0 || i >= shelf.length) {
                return;
            }
            if (shelf[i] == null) {
                shelf[i] = new Ledger();
            }
            shelf[i].copyFrom(from);
        }

        private static void fetch(Ledger[] shelf, int i, Ledger to) {
            if (i >= 0 && i < shelf.length && shelf[i] != null) {
                to.copyFrom(shelf[i]);
            }
        }
    }
}
