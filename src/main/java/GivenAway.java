import java.util.NoSuchElementException;

/** Brides of a dale, each given away by whoever could least spare her. */
public final class GivenAway {
    public static final int NONE = -1;

    private static final int MAX_PEOPLE = 9;
    private static final int MAX_BRIDES = 6;
    private static final int MAX_TIES = 24;
    private static final int MAX_TEXT = 700;
    private static final int MAX_ACTS = 40;
    private static final int MAX_SEEN = 8;

    private static final int MAX_GRIEF = 99;
    private static final int MAX_TRAINS = 9;
    private static final int MAX_ONIONS = 9;
    private static final int MAX_YEARS = 40;
    private static final int MAX_WEIGHT = 999;
    private static final int MAX_MOURNED = 20;
    private static final int BEAST_KIND = 3;

    private static final int LAST_TOLD_DAY = 60;
    private static final int LAST_DAY = 999;
    private static final int MOST_DAYS_AT_ONCE = 20;
    private static final int FORESIGHT = 60;
    private static final int MAX_SEEN_DAYS = 20;

    private static final int TEXTS_REFUSED = 0;
    private static final int ACTS_REFUSED = 1;
    private static final int SEEN_REFUSED = 2;
    private static final int STATUSES = 3;

    private final int[] tape = new int[MAX_TEXT];
    private int taped;
    private int faultPlace;
    private Plan spare;
    private final Book book;
    private final Book picture;
    private boolean pictured;
    private final Dale now;
    private final Dale trial;
    private final Reader reader;
    private final WhatIf whatIf;
    private final Scales scales;

    public GivenAway() {
        Plan plan = new Plan();
        spare = new Plan();
        book = new Book(plan);
        picture = new Book(plan);
        now = book.dale;
        trial = new Dale(plan);
        reader = new Reader(trial, tape);
        whatIf = new WhatIf(now, trial, book.seen);
        scales = new Scales(now);
        faultPlace = NONE;
    }

    public int feed(int a, int b, int c, int d, int e) {
        if (taped + 20 > MAX_TEXT) {
            return NONE;
        }
        feedNumber(a);
        feedNumber(b);
        feedNumber(c);
        feedNumber(d);
        feedNumber(e);
        return taped;
    }

    private void feedNumber(int number) {
        for (int shift = 24; shift >= 0 && taped < MAX_TEXT; shift -= 8) {
            tape[taped] = number >>> shift & 255;
            taped++;
        }
    }

    public int dale(int n) throws IllegalArgumentException {
        if (n < 0 || n > taped) {
            throw new IllegalArgumentException("the tape has not so many bytes");
        }
        taped = 0;
        // The text is read beside the dale that stands, since a fault leaves that one as it is.
        trial.startAnew(spare);
        int fault = reader.readDale(n);
        if (fault != 0) {
            faultPlace = reader.place();
            refuse(TEXTS_REFUSED);
            return fault;
        }
        spare = now.plan;
        now.copyFrom(trial);
        faultPlace = NONE;
        book.acts.clear();
        book.seen.clear();
        pictured = false;
        return 0;
    }

    public int fault() {
        return faultPlace;
    }

    public int count(int what) throws NoSuchElementException {
        needWhat(what, 12);
        switch (what) {
            case 0: return now.plan.people;
            case 1: return now.plan.brides;
            case 2: return now.tieCount();
            case 3: return now.today();
            case 4: return now.homeBits();
            case 5: return now.dogCount();
            case 6: return now.griefOfAll();
            case 7: return book.acts.size;
            case 8: return book.seen.size;
            case 9: return taped;
            default: return book.refused[what - 10];
        }
    }

    public int person(int person, int what) throws NoSuchElementException {
        needPerson(person);
        needWhat(what, 5);
        switch (what) {
            case 0: return now.plan.kinds[person];
            case 1: return now.griefOf(person);
            case 2: return now.trainsOf(person);
            case 3: return now.onionsOf(person);
            case 4: return now.ledBits(person);
            default: return now.bridesTiedTo(person);
        }
    }

    public int bride(int bride, int what) throws NoSuchElementException {
        needBride(bride);
        needWhat(what, 5);
        switch (what) {
            case 0: return now.weddingOf(bride);
            case 1: return now.isHome(bride) ? 1 : 0;
            case 2: return now.whoLed(bride);
            case 3: return now.peopleTiedTo(bride);
            case 4: return now.heaviestFor(bride);
            default: return now.rivalsFor(bride);
        }
    }

    public int years(int person, int bride) throws NoSuchElementException {
        needPerson(person);
        needBride(bride);
        return now.yearsOf(person, bride);
    }

    public int weight(int person, int bride) throws NoSuchElementException {
        needPerson(person);
        needBride(bride);
        return now.weigh(person, bride);
    }

    public int days(int many) {
        if (many < 1 || many > MOST_DAYS_AT_ONCE || now.today() + many > LAST_DAY) {
            return refuse(ACTS_REFUSED);
        }
        book.keepAct();
        for (int passed = 0; passed < many; passed++) {
            now.passDay();
        }
        return now.today();
    }

    public int train(int person, int trains) throws NoSuchElementException {
        needPerson(person);
        if (trains < 0 || trains > MAX_TRAINS) {
            return refuse(ACTS_REFUSED);
        }
        book.keepAct();
        int before = now.trainsOf(person);
        now.setTrains(person, trains);
        return before;
    }

    public int onions(int person, int more) throws NoSuchElementException {
        needPerson(person);
        if (more < 1 || more > MAX_ONIONS) {
            return refuse(ACTS_REFUSED);
        }
        book.keepAct();
        now.setOnions(person, Math.min(MAX_ONIONS, now.onionsOf(person) + more));
        return now.onionsOf(person);
    }

    public int putOff(int bride, int day) throws NoSuchElementException {
        needBride(bride);
        if (!now.isHome(bride) || day < now.today() || day > LAST_DAY) {
            return refuse(ACTS_REFUSED);
        }
        book.keepAct();
        int before = now.weddingOf(bride);
        now.setWedding(bride, day);
        return before;
    }

    public int tie(int person, int bride, int years) throws NoSuchElementException {
        needPerson(person);
        needBride(bride);
        if (years < 1 || years > MAX_YEARS) {
            return refuse(ACTS_REFUSED);
        }
        book.keepAct();
        int before = now.yearsOf(person, bride);
        now.setYears(person, bride, years);
        return before;
    }

    public int undo() {
        return book.undoAct();
    }

    public int leader(int bride) throws NoSuchElementException {
        needBride(bride);
        return whatIf.leaderNow(bride);
    }

    public int then(int person, int days) throws NoSuchElementException, IllegalArgumentException {
        needPerson(person);
        needForesight(days);
        whatIf.letPass(days);
        return trial.griefOf(person);
    }

    public int led(int person, int days) throws NoSuchElementException, IllegalArgumentException {
        needPerson(person);
        needForesight(days);
        whatIf.letPass(days);
        return whatIf.newlyLed(person);
    }

    public int dog() {
        whatIf.letPass(FORESIGHT);
        return trial.dogCount() - now.dogCount();
    }

    public int rank(int person, int bride) throws NoSuchElementException {
        needPerson(person);
        needBride(bride);
        return scales.rankOf(person, bride);
    }

    public int toTrain(int person, int bride) throws NoSuchElementException {
        needPerson(person);
        needBride(bride);
        return whatIf.leastTrains(person, bride);
    }

    public int instead(int person) throws NoSuchElementException {
        needPerson(person);
        return whatIf.otherwiseWithout(person);
    }

    public int bestDay(int bride, int what) throws NoSuchElementException {
        needBride(bride);
        needWhat(what, 1);
        return whatIf.findBestDay(bride, what == 1);
    }

    public int choice(int bride) throws NoSuchElementException {
        if (bride == NONE) {
            return scales.mostTogether();
        }
        needBride(bride);
        return scales.chosenFor(bride);
    }

    public int unloved() {
        int bits = 0;
        for (int b = 0; b < now.plan.brides; b++) {
            if (now.isHome(b) && now.peopleTiedTo(b) == 0) {
                bits |= 1 << b;
            }
        }
        return bits;
    }

    public int tug(int bride) throws NoSuchElementException {
        needBride(bride);
        return scales.fewestThatPull(bride);
    }

    public int decisive(int person, int bride) throws NoSuchElementException {
        needPerson(person);
        needBride(bride);
        return scales.setsDecidedBy(person, bride);
    }

    public int steps(int person, int other) throws NoSuchElementException {
        needPerson(person);
        needPerson(other);
        int reached = 1 << person;
        for (int walked = 0; walked < MAX_PEOPLE; walked++) {
            if ((reached >> other & 1) == 1) {
                return walked;
            }
            reached |= now.peopleBeside(reached);
        }
        return NONE;
    }

    public int busiest(int days) throws IllegalArgumentException {
        needForesight(days);
        whatIf.letPass(days);
        int who = NONE;
        int most = 0;
        for (int p = 0; p < now.plan.people; p++) {
            int many = whatIf.newlyLed(p);
            if (many > most) {
                most = many;
                who = p;
            }
        }
        return who;
    }

    public int crowd(int what) throws NoSuchElementException {
        needWhat(what, 1);
        int day = NONE;
        int most = 0;
        for (int b = 0; b < now.plan.brides; b++) {
            int wedding = now.weddingOf(b);
            int many = now.isHome(b) ? now.weddingsOn(wedding) : 0;
            if (many > most || many == most && wedding < day) {
                most = many;
                day = wedding;
            }
        }
        return what == 0 ? day : most;
    }

    public int common(int person, int other) throws NoSuchElementException {
        needPerson(person);
        needPerson(other);
        return now.bridesTiedTo(person) & now.bridesTiedTo(other);
    }

    public int see(int bride, int days, int person, int other, boolean more) throws NoSuchElementException {
        needBride(bride);
        needPerson(person);
        needPerson(other);
        if (book.seen.size >= MAX_SEEN || days < 0 || days > MAX_SEEN_DAYS || person == other) {
            return refuse(SEEN_REFUSED);
        }
        book.seen.add(bride, days, person, other, more);
        return book.seen.size;
    }

    public int hidden(int what) throws NoSuchElementException {
        needWhat(what, 2);
        switch (what) {
            case 0: return whatIf.hiddenCount();
            case 1: return whatIf.firstHidden();
            default: return whatIf.seenAsItIs() ? 1 : 0;
        }
    }

    public int next(int what) throws NoSuchElementException {
        needWhat(what, 1);
        return whatIf.weighNext(what == 1);
    }

    public void forget() {
        book.seen.clear();
    }

    public int game(int person, int other, int bride, int what)
            throws NoSuchElementException, IllegalArgumentException {
        needPerson(person);
        needPerson(other);
        needBride(bride);
        needWhat(what, 1);
        needRivals(person, other, bride);
        whatIf.playAll(person, other, bride);
        return what == 0 ? whatIf.restingCount(person, other) : whatIf.firstResting(person, other);
    }

    public int drawn(int seed, int n, int what) throws NoSuchElementException, IllegalArgumentException {
        needWhat(what, 2);
        needForesight(n);
        whatIf.drawYears(seed, n);
        switch (what) {
            case 0: return now.plan.brides - Integer.bitCount(trial.homeBits());
            case 1: return trial.dogCount() - now.dogCount();
            default: return trial.griefOfAll();
        }
    }

    public void image() {
        picture.copyFrom(book);
        pictured = true;
    }

    public boolean restore() {
        if (!pictured) {
            return false;
        }
        book.copyFrom(picture);
        return true;
    }

    private int refuse(int status) {
        book.refused[status]++;
        return NONE;
    }

    private void needPerson(int person) {
        if (person < 0 || person >= now.plan.people) {
            throw new NoSuchElementException("no such person");
        }
    }

    private void needBride(int bride) {
        if (bride < 0 || bride >= now.plan.brides) {
            throw new NoSuchElementException("no such bride");
        }
    }

    private void needWhat(int what, int last) {
        if (what < 0 || what > last) {
            throw new NoSuchElementException("no such what");
        }
    }

    private void needForesight(int days) {
        if (days < 0 || days > FORESIGHT) {
            throw new IllegalArgumentException("not 0 to 60 days");
        }
    }

    private void needRivals(int person, int other, int bride) {
        boolean tied = now.yearsOf(person, bride) > 0 && now.yearsOf(other, bride) > 0;
        if (person == other || !tied || !now.isHome(bride)) {
            throw new IllegalArgumentException("no two rivals for a bride at home");
        }
    }

    /** The words of the language: who a word tells of, or which value it means. */
    private enum Word {
        FATHER("father", 0, NONE),
        FRIEND("friend", 1, NONE),
        SUITOR("suitor", 2, NONE),
        BEAST("beast", BEAST_KIND, NONE),
        BRIDE("bride", NONE, NONE),
        TIE("tie", NONE, NONE),
        WEIGHS("weighs", NONE, NONE),
        MOURNS("mourns", NONE, NONE),
        OR("or", NONE, NONE),
        AND("and", NONE, NONE),
        NOT("not", NONE, NONE),
        GRIEF("grief", NONE, Rule.GRIEF),
        ONIONS("onions", NONE, Rule.ONIONS),
        KIND("kind", NONE, Rule.KIND),
        LED("led", NONE, Rule.LED),
        DAY("day", NONE, Rule.DAY),
        YEARS("years", NONE, Rule.YEARS),
        LEFT("left", NONE, Rule.LEFT),
        RIVALS("rivals", NONE, Rule.RIVALS);

        private static final Word[] ALL = values();

        final String letters;
        final int personKind;
        final int value;

        Word(String letters, int personKind, int value) {
            this.letters = letters;
            this.personKind = personKind;
            this.value = value;
        }

        /** The word that stands in text there; null if the language has no such word. */
        static Word find(int[] text, int from, int to) {
            for (int i = 0; i < ALL.length; i++) {
                if (ALL[i].stands(text, from, to)) {
                    return ALL[i];
                }
            }
            return null;
        }

        private boolean stands(int[] text, int from, int to) {
            if (to - from != letters.length()) {
                return false;
            }
            for (int i = 0; i < letters.length(); i++) {
                if (text[from + i] != letters.charAt(i)) {
                    return false;
                }
            }
            return true;
        }
    }

    /** Goes along a text; the fields tell of the token that stands next. */
    private static final class Tokens {
        static final int END = 0;
        static final int WORD = 1;
        static final int NUMBER = 2;
        static final int SIGN = 3;
        static final int STRANGE = 4;

        private static final String SIGNS = ";()+-*/<=";
        private static final int MAX_DIGITS = 4;

        private final int[] text;
        private int length;
        private int end;

        int kind;
        int place;
        int number;
        boolean tooLong;
        Word word;
        int sign;

        Tokens(int[] text) {
            this.text = text;
        }

        void start(int many) {
            length = Math.min(many, text.length);
            end = 0;
            advance();
        }

        void advance() {
            place = end;
            while (place < length && (text[place] == 32 || text[place] == 10)) {
                place++;
            }
            word = null;
            number = 0;
            tooLong = false;
            sign = 0;
            if (place >= length) {
                kind = END;
                end = place;
                return;
            }
            int first = text[place];
            end = place + 1;
            if (isLetter(first)) {
                takeWord();
            } else if (isDigit(first)) {
                takeNumber();
            } else if (SIGNS.indexOf((char) first) >= 0) {
                kind = SIGN;
                sign = first;
            } else {
                kind = STRANGE;
            }
        }

        private void takeWord() {
            kind = WORD;
            while (end < length && isLetter(text[end])) {
                end++;
            }
            word = Word.find(text, place, end);
        }

        private void takeNumber() {
            kind = NUMBER;
            while (end < length && isDigit(text[end])) {
                end++;
            }
            tooLong = end - place > MAX_DIGITS;
            for (int i = place; i < end && !tooLong; i++) {
                number = number * 10 + text[i] - '0';
            }
        }

        private static boolean isLetter(int sign) {
            return sign >= 'a' && sign <= 'z';
        }

        private static boolean isDigit(int sign) {
            return sign >= '0' && sign <= '9';
        }
    }

    /** Reads a text into a dale that is empty; the first fault ends it. */
    private static final class Reader {
        private static final int MISPLACED = 1;
        private static final int TOO_MUCH = 2;
        private static final int UNKNOWN = 3;
        private static final int TIED_ALREADY = 4;
        private static final int TOLD_TWICE = 5;

        private static final int MAX_DEPTH = 6;
        private static final int MAX_NOTS = 6;

        private final Tokens tokens;
        private final Dale dale;
        private Rule rule;
        private int knownValues;
        private int ties;
        private int taken;
        private int fault;

        Reader(Dale dale, int[] text) {
            tokens = new Tokens(text);
            this.dale = dale;
            rule = dale.plan.weighs;
        }

        /** Answers the fault, or 0. */
        int readDale(int length) {
            fault = 0;
            ties = 0;
            tokens.start(length);
            boolean fine = true;
            for (int line = 0; line < MAX_TEXT && fine && tokens.kind != Tokens.END; line++) {
                Word word = tokens.word;
                if (word == null) {
                    fine = refuseToken(MISPLACED);
                } else if (word.personKind != NONE) {
                    fine = readPerson(word.personKind);
                } else if (word == Word.BRIDE) {
                    fine = readBride();
                } else if (word == Word.TIE) {
                    fine = readTie();
                } else if (word == Word.WEIGHS) {
                    fine = readRule(dale.plan.weighs, Rule.VALUES_FOR_A_BRIDE);
                } else if (word == Word.MOURNS) {
                    fine = readRule(dale.plan.mourns, Rule.VALUES_OF_ONE);
                } else {
                    fine = refuseToken(MISPLACED);
                }
            }
            return fault;
        }

        int place() {
            return tokens.place;
        }

        private boolean refuseToken(int why) {
            fault = why;
            return false;
        }

        private boolean readPerson(int kind) {
            Plan plan = dale.plan;
            int p = plan.people;
            if (p >= MAX_PEOPLE) {
                return refuseToken(TOO_MUCH);
            }
            tokens.advance();
            plan.kinds[p] = kind;
            if (!takeNumber(0, MAX_GRIEF)) {
                return false;
            }
            dale.setGrief(p, taken);
            if (!takeNumber(0, MAX_TRAINS)) {
                return false;
            }
            dale.setTrains(p, taken);
            if (!takeNumber(0, MAX_ONIONS)) {
                return false;
            }
            dale.setOnions(p, taken);
            plan.people++;
            return takeSign(';');
        }

        private boolean readBride() {
            Plan plan = dale.plan;
            int b = plan.brides;
            if (b >= MAX_BRIDES) {
                return refuseToken(TOO_MUCH);
            }
            tokens.advance();
            if (!takeNumber(0, LAST_TOLD_DAY)) {
                return false;
            }
            dale.welcome(b, taken);
            plan.brides++;
            return takeSign(';');
        }

        private boolean readTie() {
            if (ties >= MAX_TIES) {
                return refuseToken(TOO_MUCH);
            }
            ties++;
            tokens.advance();
            if (!takeKnown(dale.plan.people)) {
                return false;
            }
            int p = taken;
            if (!isKnown(dale.plan.brides)) {
                return false;
            }
            int b = tokens.number;
            if (dale.yearsOf(p, b) > 0) {
                return refuseToken(TIED_ALREADY);
            }
            tokens.advance();
            if (!takeNumber(1, MAX_YEARS)) {
                return false;
            }
            dale.setYears(p, b, taken);
            return takeSign(';');
        }

        private boolean readRule(Rule which, int values) {
            if (which.told) {
                return refuseToken(TOLD_TWICE);
            }
            rule = which;
            rule.told = true;
            knownValues = values;
            tokens.advance();
            return readEither(0) && takeSign(';');
        }

        private boolean isNumber() {
            if (tokens.kind != Tokens.NUMBER) {
                return refuseToken(MISPLACED);
            }
            return !tokens.tooLong || refuseToken(TOO_MUCH);
        }

        private boolean takeNumber(int least, int most) {
            if (!isNumber()) {
                return false;
            }
            if (tokens.number < least || tokens.number > most) {
                return refuseToken(TOO_MUCH);
            }
            taken = tokens.number;
            tokens.advance();
            return true;
        }

        private boolean isKnown(int told) {
            return isNumber() && (tokens.number < told || refuseToken(UNKNOWN));
        }

        private boolean takeKnown(int told) {
            if (!isKnown(told)) {
                return false;
            }
            taken = tokens.number;
            tokens.advance();
            return true;
        }

        private boolean takeSign(char sign) {
            if (tokens.sign != sign) {
                return refuseToken(MISPLACED);
            }
            tokens.advance();
            return true;
        }

        private boolean readEither(int depth) {
            if (depth >= MAX_DEPTH) {
                return refuseToken(startsExpression() ? TOO_MUCH : MISPLACED);
            }
            boolean fine = readBoth(depth);
            for (int i = 0; i < MAX_TEXT && fine && tokens.word == Word.OR; i++) {
                tokens.advance();
                fine = readBoth(depth);
                rule.add(Rule.OR);
            }
            return fine;
        }

        private boolean startsExpression() {
            return tokens.kind == Tokens.NUMBER || tokens.kind == Tokens.WORD || tokens.sign == '(';
        }

        private boolean readBoth(int depth) {
            boolean fine = readNot(depth);
            for (int i = 0; i < MAX_TEXT && fine && tokens.word == Word.AND; i++) {
                tokens.advance();
                fine = readNot(depth);
                rule.add(Rule.AND);
            }
            return fine;
        }

        private boolean readNot(int depth) {
            int nots = 0;
            while (nots < MAX_NOTS && tokens.word == Word.NOT) {
                nots++;
                tokens.advance();
            }
            if (tokens.word == Word.NOT) {
                return refuseToken(TOO_MUCH);
            }
            boolean fine = readTest(depth);
            for (int i = 0; i < nots; i++) {
                rule.add(Rule.NOT);
            }
            return fine;
        }

        private boolean readTest(int depth) {
            if (!readSum(depth)) {
                return false;
            }
            int sign = tokens.sign;
            if (sign != '<' && sign != '=') {
                return true;
            }
            tokens.advance();
            boolean fine = readSum(depth);
            rule.add(sign == '<' ? Rule.LESS : Rule.EQUAL);
            return fine;
        }

        private boolean readSum(int depth) {
            boolean fine = readProduct(depth);
            for (int i = 0; i < MAX_TEXT && fine && (tokens.sign == '+' || tokens.sign == '-'); i++) {
                int operator = tokens.sign == '+' ? Rule.PLUS : Rule.MINUS;
                tokens.advance();
                fine = readProduct(depth);
                rule.add(operator);
            }
            return fine;
        }

        private boolean readProduct(int depth) {
            boolean fine = readPart(depth);
            for (int i = 0; i < MAX_TEXT && fine && (tokens.sign == '*' || tokens.sign == '/'); i++) {
                int operator = tokens.sign == '*' ? Rule.TIMES : Rule.OVER;
                tokens.advance();
                fine = readPart(depth);
                rule.add(operator);
            }
            return fine;
        }

        private boolean readPart(int depth) {
            if (tokens.sign == '(') {
                tokens.advance();
                return readEither(depth + 1) && takeSign(')');
            }
            if (tokens.kind == Tokens.WORD) {
                if (!isValue(tokens.word)) {
                    return refuseToken(UNKNOWN);
                }
                rule.add(Rule.FIRST_VALUE - tokens.word.value);
            } else {
                if (!isNumber()) {
                    return false;
                }
                rule.add(tokens.number);
            }
            tokens.advance();
            return true;
        }

        private boolean isValue(Word word) {
            return word != null && word.value != NONE && word.value < knownValues;
        }
    }

    /** An expression, operands ahead of their operators, so that one row and a stack work it out. */
    private static final class Rule {
        static final int GRIEF = 0;
        static final int ONIONS = 1;
        static final int KIND = 2;
        static final int LED = 3;
        static final int DAY = 4;
        static final int YEARS = 5;
        static final int LEFT = 6;
        static final int RIVALS = 7;
        static final int VALUES_OF_ONE = 5;
        static final int VALUES_FOR_A_BRIDE = 8;

        // Numbers stand in the row as they are, so all else is below 0.
        static final int FIRST_VALUE = -1;
        static final int LAST_VALUE = -8;
        static final int OR = -9;
        static final int AND = -10;
        static final int NOT = -11;
        static final int LESS = -12;
        static final int EQUAL = -13;
        static final int PLUS = -14;
        static final int MINUS = -15;
        static final int TIMES = -16;
        static final int OVER = -17;

        // Each of the 6 depths holds at most five operands back (or, and, a test, a sum, a product).
        private static final int STACK = 40;

        boolean told;
        private final int[] row = new int[MAX_TEXT];
        private int length;
        private final int[] stack = new int[STACK];

        void clear() {
            told = false;
            length = 0;
        }

        void add(int code) {
            if (length < row.length) {
                row[length] = code;
                length++;
            }
        }

        int workOut(int[] values) {
            int top = 0;
            for (int i = 0; i < length; i++) {
                int code = row[i];
                if (code >= LAST_VALUE) {
                    if (top < STACK) {
                        stack[top] = code >= 0 ? code : values[FIRST_VALUE - code];
                        top++;
                    }
                } else if (code == NOT) {
                    if (top >= 1) {
                        stack[top - 1] = stack[top - 1] == 0 ? 1 : 0;
                    }
                } else if (top >= 2) {
                    top--;
                    stack[top - 1] = joined(code, stack[top - 1], stack[top]);
                }
            }
            return stack[0];
        }

        private static int joined(int operator, int left, int right) {
            switch (operator) {
                case OR: return left != 0 || right != 0 ? 1 : 0;
                case AND: return left != 0 && right != 0 ? 1 : 0;
                case LESS: return left < right ? 1 : 0;
                case EQUAL: return left == right ? 1 : 0;
                case PLUS: return left + right;
                case MINUS: return left - right;
                case TIMES: return left * right;
                default: return right == 0 ? 0 : left / right;
            }
        }
    }

    /** What a text has told and nothing changes any more. */
    private static final class Plan {
        int people;
        int brides;
        final int[] kinds = new int[MAX_PEOPLE];
        final Rule weighs = new Rule();
        final Rule mourns = new Rule();

        void clear() {
            people = 0;
            brides = 0;
            weighs.clear();
            mourns.clear();
        }
    }

    /** A dale on one of its days: all that days and acts change, in one row that is quickly copied. */
    private static final class Dale {
        private static final int DAY = 0;
        private static final int DOG = 1;
        private static final int PEOPLE = 2;
        private static final int GRIEF = 0;
        private static final int TRAINS = 1;
        private static final int ONIONS = 2;
        private static final int LED = 3;
        private static final int PERSON_CELLS = 4;
        private static final int BRIDES = PEOPLE + MAX_PEOPLE * PERSON_CELLS;
        private static final int WEDDING = 0;
        private static final int HOME = 1;
        private static final int LEADER = 2;
        private static final int BRIDE_CELLS = 3;
        private static final int TIES = BRIDES + MAX_BRIDES * BRIDE_CELLS;
        static final int CELLS = TIES + MAX_PEOPLE * MAX_BRIDES;

        Plan plan;
        final int[] cells = new int[CELLS];
        private final int[] values = new int[Rule.VALUES_FOR_A_BRIDE];
        private final int[] leaderWeights = new int[MAX_BRIDES];

        Dale(Plan plan) {
            this.plan = plan;
        }

        void startAnew(Plan cleared) {
            plan = cleared;
            plan.clear();
            for (int i = 0; i < CELLS; i++) {
                cells[i] = 0;
            }
        }

        void copyFrom(Dale other) {
            plan = other.plan;
            System.arraycopy(other.cells, 0, cells, 0, CELLS);
        }

        int today() {
            return cells[DAY];
        }

        int dogCount() {
            return cells[DOG];
        }

        int griefOf(int p) {
            return cells[PEOPLE + p * PERSON_CELLS + GRIEF];
        }

        void setGrief(int p, int grief) {
            cells[PEOPLE + p * PERSON_CELLS + GRIEF] = grief;
        }

        int trainsOf(int p) {
            return cells[PEOPLE + p * PERSON_CELLS + TRAINS];
        }

        void setTrains(int p, int trains) {
            cells[PEOPLE + p * PERSON_CELLS + TRAINS] = trains;
        }

        int onionsOf(int p) {
            return cells[PEOPLE + p * PERSON_CELLS + ONIONS];
        }

        void setOnions(int p, int onions) {
            cells[PEOPLE + p * PERSON_CELLS + ONIONS] = onions;
        }

        int ledBits(int p) {
            return cells[PEOPLE + p * PERSON_CELLS + LED];
        }

        void welcome(int b, int wedding) {
            cells[BRIDES + b * BRIDE_CELLS + WEDDING] = wedding;
            cells[BRIDES + b * BRIDE_CELLS + HOME] = 1;
            cells[BRIDES + b * BRIDE_CELLS + LEADER] = NONE;
        }

        int weddingOf(int b) {
            return cells[BRIDES + b * BRIDE_CELLS + WEDDING];
        }

        void setWedding(int b, int day) {
            cells[BRIDES + b * BRIDE_CELLS + WEDDING] = day;
        }

        boolean isHome(int b) {
            return cells[BRIDES + b * BRIDE_CELLS + HOME] == 1;
        }

        int whoLed(int b) {
            return cells[BRIDES + b * BRIDE_CELLS + LEADER];
        }

        /** What the one who led her weighed then. */
        int leaderWeight(int b) {
            return leaderWeights[b];
        }

        int yearsOf(int p, int b) {
            return cells[TIES + p * MAX_BRIDES + b];
        }

        void setYears(int p, int b, int years) {
            cells[TIES + p * MAX_BRIDES + b] = years;
        }

        int bridesTiedTo(int p) {
            int bits = 0;
            for (int b = 0; b < plan.brides; b++) {
                if (yearsOf(p, b) > 0) {
                    bits |= 1 << b;
                }
            }
            return bits;
        }

        int peopleTiedTo(int b) {
            int bits = 0;
            for (int p = 0; p < plan.people; p++) {
                if (cells[TIES + p * MAX_BRIDES + b] > 0) {
                    bits |= 1 << p;
                }
            }
            return bits;
        }

        /** Those who share a bride with one of the set (each of them too who has a tie). */
        int peopleBeside(int set) {
            int bits = 0;
            for (int b = 0; b < plan.brides; b++) {
                int tied = peopleTiedTo(b);
                if ((tied & set) != 0) {
                    bits |= tied;
                }
            }
            return bits;
        }

        int tieCount() {
            int many = 0;
            for (int p = 0; p < plan.people; p++) {
                many += Integer.bitCount(bridesTiedTo(p));
            }
            return many;
        }

        int homeBits() {
            int bits = 0;
            for (int b = 0; b < plan.brides; b++) {
                if (isHome(b)) {
                    bits |= 1 << b;
                }
            }
            return bits;
        }

        int griefOfAll() {
            int sum = 0;
            for (int p = 0; p < plan.people; p++) {
                sum += griefOf(p);
            }
            return sum;
        }

        int weddingsOn(int day) {
            int many = 0;
            for (int b = 0; b < plan.brides; b++) {
                if (isHome(b) && weddingOf(b) == day) {
                    many++;
                }
            }
            return many;
        }

        boolean hasWeddingBefore(int day) {
            for (int b = 0; b < plan.brides; b++) {
                if (isHome(b) && weddingOf(b) < day) {
                    return true;
                }
            }
            return false;
        }

        /** How many others each one who has a tie with her finds beside; 0 if nobody has one. */
        int rivalsFor(int b) {
            return Math.max(0, Integer.bitCount(peopleTiedTo(b)) - 1);
        }

        /** NONE, which is below every weight, without a tie. */
        int weigh(int p, int b) {
            int years = yearsOf(p, b);
            if (years == 0) {
                return NONE;
            }
            if (!plan.weighs.told) {
                return kept(griefOf(p) + years - 2 * onionsOf(p), MAX_WEIGHT);
            }
            setValuesOf(p);
            values[Rule.YEARS] = years;
            values[Rule.LEFT] = Math.max(0, weddingOf(b) - today());
            values[Rule.RIVALS] = rivalsFor(b);
            return kept(plan.weighs.workOut(values), MAX_WEIGHT);
        }

        private void setValuesOf(int p) {
            values[Rule.GRIEF] = griefOf(p);
            values[Rule.ONIONS] = onionsOf(p);
            values[Rule.KIND] = plan.kinds[p];
            values[Rule.LED] = Integer.bitCount(ledBits(p));
            values[Rule.DAY] = today();
        }

        private static int kept(int value, int most) {
            return Math.max(0, Math.min(value, most));
        }

        int heaviestFor(int b) {
            int who = NONE;
            int most = NONE;
            for (int p = 0; p < plan.people; p++) {
                int weight = weigh(p, b);
                if (weight > most) {
                    most = weight;
                    who = p;
                }
            }
            return who;
        }

        void passDay() {
            for (int b = 0; b < plan.brides; b++) {
                if (isHome(b) && weddingOf(b) == today()) {
                    giveAway(b, heaviestFor(b));
                }
            }
            for (int p = 0; p < plan.people; p++) {
                setGrief(p, Math.min(MAX_GRIEF, griefOf(p) + mournedBy(p)));
                setOnions(p, Math.max(0, onionsOf(p) - 1));
            }
            cells[DAY]++;
        }

        private void giveAway(int b, int heaviest) {
            cells[BRIDES + b * BRIDE_CELLS + HOME] = 0;
            int weight = heaviest == NONE ? 0 : weigh(heaviest, b);
            leaderWeights[b] = weight;
            if (weight <= 0) {
                cells[DOG]++;
                return;
            }
            cells[BRIDES + b * BRIDE_CELLS + LEADER] = heaviest;
            cells[PEOPLE + heaviest * PERSON_CELLS + LED] |= 1 << b;
            setGrief(heaviest, griefOf(heaviest) / 2);
        }

        private int mournedBy(int p) {
            if (plan.mourns.told) {
                setValuesOf(p);
                return kept(plan.mourns.workOut(values), MAX_MOURNED);
            }
            return plan.kinds[p] == BEAST_KIND ? 0 : trainsOf(p);
        }
    }

    /** The latest acts, each kept as the row of the dale ahead of it; the oldest gives way. */
    private static final class Acts {
        private final int[] rows = new int[MAX_ACTS * Dale.CELLS];
        private int first;
        int size;

        void clear() {
            first = 0;
            size = 0;
        }

        void push(int[] cells) {
            if (size == MAX_ACTS) {
                first = (first + 1) % MAX_ACTS;
                size--;
            }
            System.arraycopy(cells, 0, rows, startOf(size), Dale.CELLS);
            size++;
        }

        void pop(int[] cells) {
            if (size > 0) {
                size--;
                System.arraycopy(rows, startOf(size), cells, 0, Dale.CELLS);
            }
        }

        private int startOf(int which) {
            return (first + which) % MAX_ACTS * Dale.CELLS;
        }

        void copyFrom(Acts other) {
            System.arraycopy(other.rows, 0, rows, 0, rows.length);
            first = other.first;
            size = other.size;
        }
    }

    /** What the scales told. */
    private static final class Seen {
        private final int[] brides = new int[MAX_SEEN];
        private final int[] inDays = new int[MAX_SEEN];
        private final int[] ones = new int[MAX_SEEN];
        private final int[] others = new int[MAX_SEEN];
        private final boolean[] mores = new boolean[MAX_SEEN];
        int size;

        void clear() {
            size = 0;
        }

        void add(int b, int days, int p, int other, boolean more) {
            if (size < MAX_SEEN) {
                brides[size] = b;
                inDays[size] = days;
                ones[size] = p;
                others[size] = other;
                mores[size] = more;
                size++;
            }
        }

        void copyFrom(Seen from) {
            clear();
            for (int i = 0; i < from.size; i++) {
                add(from.brides[i], from.inDays[i], from.ones[i], from.others[i], from.mores[i]);
            }
        }

        /** The most days ahead that something is seen; NONE without any. */
        int farthest() {
            int most = NONE;
            for (int i = 0; i < size; i++) {
                most = Math.max(most, inDays[i]);
            }
            return most;
        }

        /** Whether all that is seen in so many days is so in that dale, which has come to them. */
        boolean holdsIn(Dale dale, int days) {
            for (int i = 0; i < size; i++) {
                if (inDays[i] == days && mores[i] != isMore(dale, i)) {
                    return false;
                }
            }
            return true;
        }

        private boolean isMore(Dale dale, int i) {
            return dale.weigh(ones[i], brides[i]) > dale.weigh(others[i], brides[i]);
        }
    }

    /** All that an image keeps. */
    private static final class Book {
        final Dale dale;
        final Acts acts = new Acts();
        final Seen seen = new Seen();
        final int[] refused = new int[STATUSES];

        Book(Plan plan) {
            dale = new Dale(plan);
        }

        void keepAct() {
            acts.push(dale.cells);
        }

        int undoAct() {
            if (acts.size == 0) {
                return NONE;
            }
            acts.pop(dale.cells);
            return acts.size;
        }

        void copyFrom(Book other) {
            dale.copyFrom(other.dale);
            acts.copyFrom(other.acts);
            seen.copyFrom(other.seen);
            System.arraycopy(other.refused, 0, refused, 0, STATUSES);
        }
    }

    /** Tries on a copy of the dale what would be; the dale itself stays. */
    private static final class WhatIf {
        private static final int MORE_DAYS_TO_TRY = 30;
        private static final int GUESSES_OF_ONE = MAX_ONIONS + 1;
        private static final int CHOICES = 2;
        private static final int TAKE_ONIONS = 0;
        private static final int MORE_BY_CHOICE = 3;
        private static final int GAIN_OF_LEADER = 10;
        private static final int GAIN_OF_ONIONS = 1;
        private static final int GAIN_OF_TRAINING = -2;
        private static final int SIDES = 6;
        private static final int MORE_GRIEF = 15;
        private static final int MORE_DAYS = 2;

        private final Dale now;
        private final Dale trial;
        private final Seen seen;
        private final int[] noted = new int[MAX_BRIDES];
        private final int[] played = new int[CHOICES * CHOICES];
        private int seed;

        WhatIf(Dale now, Dale trial, Seen seen) {
            this.now = now;
            this.trial = trial;
            this.seen = seen;
        }

        void letPass(int days) {
            trial.copyFrom(now);
            for (int d = 0; d < days; d++) {
                trial.passDay();
            }
        }

        /** Goes on with the trial; whoLed() then tells the leaders (NONE if it's not in 60 days from now). */
        private void foresee() {
            int until = now.today() + FORESIGHT;
            for (int d = 0; d < FORESIGHT && trial.hasWeddingBefore(until); d++) {
                trial.passDay();
            }
        }

        int leaderNow(int b) {
            trial.copyFrom(now);
            foresee();
            return trial.whoLed(b);
        }

        int newlyLed(int p) {
            return Integer.bitCount(trial.ledBits(p)) - Integer.bitCount(now.ledBits(p));
        }

        int leastTrains(int p, int b) {
            if (!now.isHome(b)) {
                return NONE;
            }
            for (int trains = 0; trains <= MAX_TRAINS; trains++) {
                trial.copyFrom(now);
                trial.setTrains(p, trains);
                foresee();
                if (trial.whoLed(b) == p) {
                    return trains;
                }
            }
            return NONE;
        }

        int otherwiseWithout(int p) {
            trial.copyFrom(now);
            foresee();
            for (int b = 0; b < now.plan.brides; b++) {
                noted[b] = trial.whoLed(b);
            }
            trial.copyFrom(now);
            for (int b = 0; b < now.plan.brides; b++) {
                trial.setYears(p, b, 0);
            }
            foresee();
            int bits = 0;
            for (int b = 0; b < now.plan.brides; b++) {
                if (now.isHome(b) && noted[b] != trial.whoLed(b)) {
                    bits |= 1 << b;
                }
            }
            return bits;
        }

        int findBestDay(int b, boolean askWeight) {
            int best = NONE;
            int most = NONE;
            int last = Math.min(LAST_DAY, now.today() + MORE_DAYS_TO_TRY);
            for (int day = now.today(); day <= last && now.isHome(b); day++) {
                int weight = weightOfLeaderOn(b, day);
                if (weight > 0 && weight > most) {
                    most = weight;
                    best = day;
                }
            }
            return askWeight ? most : best;
        }

        private int weightOfLeaderOn(int b, int day) {
            trial.copyFrom(now);
            trial.setWedding(b, day);
            for (int d = 0; d <= MORE_DAYS_TO_TRY && trial.isHome(b); d++) {
                trial.passDay();
            }
            return trial.leaderWeight(b);
        }

        private boolean isSeenInTrial() {
            int farthest = seen.farthest();
            for (int d = 0; d <= farthest; d++) {
                if (!seen.holdsIn(trial, d)) {
                    return false;
                }
                if (d < farthest) {
                    trial.passDay();
                }
            }
            return true;
        }

        boolean seenAsItIs() {
            trial.copyFrom(now);
            return isSeenInTrial();
        }

        /** A guess is 10 by who, and onions; false if that one has so many anyway. */
        private boolean suppose(int guess) {
            int p = guess / GUESSES_OF_ONE;
            int onions = guess % GUESSES_OF_ONE;
            trial.copyFrom(now);
            trial.setOnions(p, onions);
            return now.onionsOf(p) != onions;
        }

        int hiddenCount() {
            int many = 0;
            for (int guess = 0; guess < GUESSES_OF_ONE * now.plan.people; guess++) {
                if (suppose(guess) && isSeenInTrial()) {
                    many++;
                }
            }
            return many;
        }

        int firstHidden() {
            for (int guess = 0; guess < GUESSES_OF_ONE * now.plan.people; guess++) {
                if (suppose(guess) && isSeenInTrial()) {
                    return guess;
                }
            }
            return NONE;
        }

        int weighNext(boolean askHowMany) {
            for (int b = 0; b < MAX_BRIDES; b++) {
                noted[b] = 0;
            }
            for (int guess = 0; guess < GUESSES_OF_ONE * now.plan.people; guess++) {
                if (suppose(guess) && isSeenInTrial()) {
                    foresee();
                    noteLeaders();
                }
            }
            int bride = NONE;
            int most = 0;
            for (int b = 0; b < now.plan.brides; b++) {
                int many = Integer.bitCount(noted[b]);
                if (many > most) {
                    most = many;
                    bride = b;
                }
            }
            return askHowMany ? most : bride;
        }

        private void noteLeaders() {
            for (int b = 0; b < now.plan.brides; b++) {
                // NONE counts as a leader like any other, in bit 0.
                noted[b] |= 1 << trial.whoLed(b) + 1;
            }
        }

        /** Notes who leads her by each couple of choices. */
        void playAll(int one, int other, int b) {
            for (int a = 0; a < CHOICES; a++) {
                for (int c = 0; c < CHOICES; c++) {
                    trial.copyFrom(now);
                    choose(one, a);
                    choose(other, c);
                    foresee();
                    played[CHOICES * a + c] = trial.whoLed(b);
                }
            }
        }

        private void choose(int p, int choice) {
            if (choice == TAKE_ONIONS) {
                trial.setOnions(p, Math.min(MAX_ONIONS, trial.onionsOf(p) + MORE_BY_CHOICE));
            } else {
                trial.setTrains(p, Math.min(MAX_TRAINS, trial.trainsOf(p) + MORE_BY_CHOICE));
            }
        }

        private static int gainOf(int p, int choice, int leader) {
            return (leader == p ? GAIN_OF_LEADER : 0)
                    + (choice == TAKE_ONIONS ? GAIN_OF_ONIONS : GAIN_OF_TRAINING);
        }

        private boolean rests(int one, int other, int a, int c) {
            int leader = played[CHOICES * a + c];
            int elseOne = gainOf(one, 1 - a, played[CHOICES * (1 - a) + c]);
            int elseOther = gainOf(other, 1 - c, played[CHOICES * a + 1 - c]);
            return elseOne <= gainOf(one, a, leader) && elseOther <= gainOf(other, c, leader);
        }

        int restingCount(int one, int other) {
            int many = 0;
            for (int couple = 0; couple < CHOICES * CHOICES; couple++) {
                if (rests(one, other, couple / CHOICES, couple % CHOICES)) {
                    many++;
                }
            }
            return many;
        }

        int firstResting(int one, int other) {
            for (int couple = 0; couple < CHOICES * CHOICES; couple++) {
                if (rests(one, other, couple / CHOICES, couple % CHOICES)) {
                    return 10 * (couple / CHOICES) + couple % CHOICES;
                }
            }
            return NONE;
        }

        void drawYears(int firstSeed, int days) {
            seed = firstSeed;
            trial.copyFrom(now);
            for (int d = 0; d < days; d++) {
                takeChance();
                trial.passDay();
            }
        }

        private void takeChance() {
            int side = draw(SIDES);
            if (side == 0 && now.plan.people > 0) {
                int p = draw(now.plan.people);
                trial.setGrief(p, Math.min(MAX_GRIEF, trial.griefOf(p) + MORE_GRIEF));
            } else if (side == 1 && now.plan.brides > 0) {
                int b = draw(now.plan.brides);
                if (trial.isHome(b) && trial.weddingOf(b) >= trial.today()) {
                    trial.setWedding(b, trial.weddingOf(b) + MORE_DAYS);
                }
            }
        }

        private int draw(int of) {
            seed = seed * 1103515245 + 12345;
            return of <= 0 ? 0 : (seed >>> 16 & 0x7fff) % of;
        }
    }

    /** What the weights of now say of sets of people, and of choices among them. */
    private static final class Scales {
        private static final int SETS = 1 << MAX_PEOPLE;

        private final Dale now;
        private final int[] weights = new int[MAX_PEOPLE * MAX_BRIDES];
        private final int[] mostBeside = new int[SETS];

        Scales(Dale now) {
            this.now = now;
        }

        private void weighFor(int b) {
            for (int p = 0; p < now.plan.people; p++) {
                weights[p * MAX_BRIDES + b] = now.weigh(p, b);
            }
        }

        private int weightOf(int p, int b) {
            return weights[p * MAX_BRIDES + b];
        }

        int rankOf(int p, int b) {
            weighFor(b);
            int own = weightOf(p, b);
            if (own == NONE) {
                return NONE;
            }
            int ahead = 0;
            for (int q = 0; q < now.plan.people; q++) {
                if (weightOf(q, b) > own || weightOf(q, b) == own && q < p) {
                    ahead++;
                }
            }
            return ahead;
        }

        private int weightOfSet(int set, int b) {
            int sum = 0;
            for (int p = 0; p < now.plan.people; p++) {
                if ((set >> p & 1) == 1) {
                    sum += weightOf(p, b);
                }
            }
            return sum;
        }

        private boolean pulls(int set, int tied, int b) {
            return weightOfSet(set, b) > weightOfSet(tied & ~set, b);
        }

        int fewestThatPull(int b) {
            weighFor(b);
            int tied = now.peopleTiedTo(b);
            int best = NONE;
            int fewest = MAX_PEOPLE + 1;
            for (int set = 1; set <= tied; set++) {
                int many = Integer.bitCount(set);
                if ((set & ~tied) == 0 && many < fewest && pulls(set, tied, b)) {
                    fewest = many;
                    best = set;
                }
            }
            return best;
        }

        int setsDecidedBy(int p, int b) {
            weighFor(b);
            int tied = now.peopleTiedTo(b);
            int one = 1 << p;
            int many = 0;
            for (int set = 1; set <= tied; set++) {
                boolean within = (set & ~tied) == 0 && (set & one) != 0;
                if (within && pulls(set, tied, b) && !pulls(set & ~one, tied, b)) {
                    many++;
                }
            }
            return many;
        }

        private void weighForAll() {
            for (int b = 0; b < now.plan.brides; b++) {
                weighFor(b);
            }
        }

        /** Fills in, for each set of people who are taken, the most that the brides from there on can have. */
        private void fillFrom(int from) {
            int sets = 1 << now.plan.people;
            for (int set = 0; set < sets; set++) {
                mostBeside[set] = 0;
            }
            for (int b = now.plan.brides - 1; b >= from; b--) {
                // A set looks only at larger ones, which so are still those of the bride behind.
                for (int set = 0; set < sets && now.isHome(b); set++) {
                    mostBeside[set] = mostWith(set, b);
                }
            }
        }

        private int mostWith(int set, int b) {
            int most = mostBeside[set];
            for (int p = 0; p < now.plan.people; p++) {
                if (isFree(p, set, b)) {
                    most = Math.max(most, weightOf(p, b) + mostBeside[set | 1 << p]);
                }
            }
            return most;
        }

        private boolean isFree(int p, int set, int b) {
            return (set >> p & 1) == 0 && weightOf(p, b) != NONE;
        }

        int mostTogether() {
            weighForAll();
            fillFrom(0);
            return mostBeside[0];
        }

        int chosenFor(int bride) {
            int due = mostTogether();
            int taken = 0;
            int who = NONE;
            for (int b = 0; b <= bride; b++) {
                fillFrom(b + 1);
                who = now.isHome(b) ? firstThatFits(b, taken, due) : NONE;
                if (who != NONE) {
                    taken |= 1 << who;
                    due -= weightOf(who, b);
                }
            }
            return who;
        }

        private int firstThatFits(int b, int taken, int due) {
            for (int p = 0; p < now.plan.people; p++) {
                if (isFree(p, taken, b) && weightOf(p, b) + mostBeside[taken | 1 << p] == due) {
                    return p;
                }
            }
            return NONE;
        }
    }
}
