/** A netting desk. */
public final class NettingDesk {
    private static final int MOST_BYTES = 2000;
    private static final int MOST_TOKENS = 400;
    private static final int LONGEST_WORD = 8;
    private static final int LONGEST_NUMBER = 7;
    private static final int MOST_PARTIES = 10;
    private static final int MOST_MONEYS = 5;
    private static final int MOST_PAYMENTS = 60;
    private static final int MOST_LINE = 1000000;
    private static final int MOST_RATE = 1000;
    private static final int LATEST_CUT = 23;
    private static final int MOST_AMOUNT = 100000;
    private static final int MOST_DAYS_AHEAD = 30;
    private static final int MOST_HOURS = 100;
    private static final int HOURS_A_DAY = 24;
    private static final int LEAST_BY_INTEREST = -10000000;
    private static final int DEPOSIT_STEP = 500;
    private static final int MOST_DEPOSIT = 50000;
    private static final int LONGEST_LINE = 36;
    private static final int NOBODY = -1;

    private static final int WAITS = 0;
    private static final int SETTLED = 1;
    private static final int FAILED = 2;
    private static final int CANCELLED = 3;

    // The kinds of tokens: first the keywords, as they stand in KEYWORDS.
    private static final int PARTY = 0;
    private static final int LINE = 1;
    private static final int MONEY = 2;
    private static final int RATE = 3;
    private static final int CUT = 4;
    private static final int PAY = 5;
    private static final int TO = 6;
    private static final int ON = 7;
    private static final int FOR = 8;
    private static final int HOLD = 9;
    private static final int CANCEL = 10;
    private static final int NAME = 11;
    private static final int NUMBER = 12;
    private static final int SEMICOLON = 13;
    private static final int END = 14;
    private static final int NO_TOKEN = 15;

    // A word has at most 8 bytes: it is kept as one long, its last byte the lowest.
    private static final long[] KEYWORDS = {
        0x7061727479L,   // party
        0x6c696e65L,     // line
        0x6d6f6e6579L,   // money
        0x72617465L,     // rate
        0x637574L,       // cut
        0x706179L,       // pay
        0x746fL,         // to
        0x6f6eL,         // on
        0x666f72L,       // for
        0x686f6c64L,     // hold
        0x63616e63656cL  // cancel
    };

    private final Teller teller = new Teller();
    private final Text text = teller.text;
    private final ByteRow tape = text.tape;
    private final ByteRow paper = new ByteRow(MOST_PAYMENTS * LONGEST_LINE);
    private final Netting netting = new Netting();
    private final Book book = netting.book;
    // A second book, made once, in which is tried what must not change the first.
    private final Netting draftNetting = new Netting();
    private final Book draft = draftNetting.book;
    private final Row debts = new Row(MOST_PARTIES * MOST_PARTIES);
    private int errorPlace = -1;

    public NettingDesk() {
    }

    // ---- the language

    public int feed(int a, int b, int c, int d, int e) throws IllegalStateException {
        if (tape.length + 20 > MOST_BYTES) {
            throw new IllegalStateException("the tape is full");
        }
        tape.appendFour(a);
        tape.appendFour(b);
        tape.appendFour(c);
        tape.appendFour(d);
        tape.appendFour(e);
        return tape.length;
    }

    public int trim(int n) throws IllegalArgumentException {
        if (!isFrom(n, 0, tape.length)) {
            throw new IllegalArgumentException("the tape has no such length");
        }
        tape.length = n;
        return n;
    }

    public int teach() {
        int error = 0;
        errorPlace = -1;
        text.readTokens();
        if (!text.isText()) {
            error = 1;
            errorPlace = text.placeReached();
        } else {
            draft.copyFrom(book);
            error = teller.tellAll(draft);
            if (error == 0) {
                book.copyFrom(draft);
            } else {
                errorPlace = teller.errorPlace;
            }
        }
        tape.length = 0;
        return error;
    }

    public int errorAt() {
        return errorPlace;
    }

    public int count(int what) throws IndexOutOfBoundsException {
        if (!isFrom(what, 0, 11)) {
            throw new IndexOutOfBoundsException("nothing such is counted");
        }
        return counted(what);
    }

    private int counted(int what) {
        switch (what) {
            case 0: return book.partyCount;
            case 1: return book.moneyCount;
            case 2: return book.paymentCount;
            case 3: return book.countInState(WAITS);
            case 4: return book.countInState(SETTLED);
            case 5: return book.countInState(FAILED);
            case 6: return book.countInState(CANCELLED);
            case 7: return book.day;
            case 8: return book.hour;
            case 9: return book.countInDefault();
            case 10: return tape.length;
            default: return paper.length;
        }
    }

    // ---- parties and moneys

    public int party(int party, int what) throws IndexOutOfBoundsException {
        if (!isParty(party) || !isFrom(what, 0, 6)) {
            throw new IndexOutOfBoundsException("no such party, or nothing such of it");
        }
        return toldOfParty(party, what);
    }

    private int toldOfParty(int number, int what) {
        Party party = book.partyAt(number);
        switch (what) {
            case 0: return party.line;
            case 1: return (int) book.limitOf(party);
            case 2: return (int) book.exposureOf(party.balance);
            case 3: return (int) book.roomOf(party);
            case 4: return party.inDefault ? 1 : 0;
            case 5: return book.countWaitingOf(number);
            default: return book.countWaitingTo(number);
        }
    }

    public int money(int money, int what) throws IndexOutOfBoundsException {
        if (!isMoney(money) || !isFrom(what, 0, 3)) {
            throw new IndexOutOfBoundsException("no such money, or nothing such of it");
        }
        return toldOfMoney(money, what);
    }

    private int toldOfMoney(int number, int what) {
        Money money = book.moneyAt(number);
        switch (what) {
            case 0: return money.rate;
            case 1: return money.cut;
            case 2: return money.cut > book.hour ? 1 : 0;
            default: return book.waitingAmountIn(number);
        }
    }

    public int setRate(int money, int rate) throws IndexOutOfBoundsException, IllegalArgumentException {
        if (!isMoney(money)) {
            throw new IndexOutOfBoundsException("no such money");
        }
        if (!isFrom(rate, 1, MOST_RATE)) {
            throw new IllegalArgumentException("no such rate");
        }
        int before = book.moneyAt(money).rate;
        book.moneyAt(money).rate = rate;
        return before;
    }

    public int has(int party, int money, boolean isCollateral) throws IndexOutOfBoundsException {
        if (!isParty(party) || !isMoney(money)) {
            throw new IndexOutOfBoundsException("no such party or money");
        }
        Party one = book.partyAt(party);
        return isCollateral ? one.collateral.at(money) : one.balance.at(money);
    }

    public int deposit(int party, int money, int amount)
            throws IndexOutOfBoundsException, IllegalArgumentException {
        if (!isParty(party) || !isMoney(money)) {
            throw new IndexOutOfBoundsException("no such party or money");
        }
        if (!isFrom(amount, 1, MOST_AMOUNT)) {
            throw new IllegalArgumentException("no such amount");
        }
        Row balance = book.partyAt(party).balance;
        balance.add(money, amount);
        return balance.at(money);
    }

    public int withdraw(int party, int money, int amount)
            throws IndexOutOfBoundsException, IllegalArgumentException, IllegalStateException {
        if (!isParty(party) || !isMoney(money)) {
            throw new IndexOutOfBoundsException("no such party or money");
        }
        if (!isFrom(amount, 1, MOST_AMOUNT)) {
            throw new IllegalArgumentException("no such amount");
        }
        Row balance = book.partyAt(party).balance;
        if (balance.at(money) < amount) {
            throw new IllegalStateException("the balance is too small");
        }
        balance.add(money, -amount);
        return balance.at(money);
    }

    public int pledge(int party, int money, int amount)
            throws IndexOutOfBoundsException, IllegalArgumentException, IllegalStateException {
        if (!isParty(party) || !isMoney(money)) {
            throw new IndexOutOfBoundsException("no such party or money");
        }
        if (amount == 0 || !isFrom(amount, -MOST_AMOUNT, MOST_AMOUNT)) {
            throw new IllegalArgumentException("no such amount");
        }
        Party one = book.partyAt(party);
        if (one.balance.at(money) < amount && amount > 0 || one.collateral.at(money) < -amount) {
            throw new IllegalStateException("there is not so much to move");
        }
        one.moveToCollateral(money, amount);
        int room = (int) book.roomOf(one);
        if (amount < 0 && room < 0) {
            one.moveToCollateral(money, -amount);
            throw new IllegalStateException("there would be no room");
        }
        return room;
    }

    // ---- payments

    public int payment(int payment, int what) throws IndexOutOfBoundsException {
        if (!isPayment(payment) || !isFrom(what, 0, 8)) {
            throw new IndexOutOfBoundsException("no such payment, or nothing such of it");
        }
        return toldOfPayment(payment, what);
    }

    private int toldOfPayment(int number, int what) {
        Payment payment = book.paymentAt(number);
        switch (what) {
            case 0: return payment.from;
            case 1: return payment.to;
            case 2: return payment.amount;
            case 3: return payment.money;
            case 4: return payment.due;
            case 5: return payment.partner;
            case 6: return payment.state;
            case 7: return payment.isHeld ? 1 : 0;
            default: return payment.settledAt;
        }
    }

    public int amend(int payment, int amount)
            throws IndexOutOfBoundsException, IllegalArgumentException, IllegalStateException {
        if (!isPayment(payment)) {
            throw new IndexOutOfBoundsException("no such payment");
        }
        if (!isFrom(amount, 1, MOST_AMOUNT)) {
            throw new IllegalArgumentException("no such amount");
        }
        Payment one = book.paymentAt(payment);
        if (one.state != WAITS) {
            throw new IllegalStateException("the payment does not wait");
        }
        int before = one.amount;
        one.amount = amount;
        return before;
    }

    public int putOff(int payment, int days)
            throws IndexOutOfBoundsException, IllegalArgumentException, IllegalStateException {
        if (!isPayment(payment)) {
            throw new IndexOutOfBoundsException("no such payment");
        }
        if (!isFrom(days, 1, MOST_DAYS_AHEAD)) {
            throw new IllegalArgumentException("no such number of days");
        }
        Payment one = book.paymentAt(payment);
        if (one.state != WAITS) {
            throw new IllegalStateException("the payment does not wait");
        }
        one.due += days;
        return one.due;
    }

    public int owes(int a, int b, int money) throws IndexOutOfBoundsException {
        if (!isParty(a) || !isParty(b) || !isMoney(money)) {
            throw new IndexOutOfBoundsException("no such party or money");
        }
        fillDebts(money);
        return debt(a, b);
    }

    private void fillDebts(int money) {
        debts.clear();
        for (int n = 0; n < book.paymentCount; n++) {
            Payment payment = book.paymentAt(n);
            if (payment.state == WAITS && payment.money == money) {
                debts.add(payment.from * MOST_PARTIES + payment.to, payment.amount);
                debts.add(payment.to * MOST_PARTIES + payment.from, -payment.amount);
            }
        }
    }

    private int debt(int a, int b) {
        return debts.at(a * MOST_PARTIES + b);
    }

    // ---- hours

    public int pass(int hours) throws IllegalArgumentException {
        if (!isFrom(hours, 1, MOST_HOURS)) {
            throw new IllegalArgumentException("no such number of hours");
        }
        int settled = 0;
        for (int h = 0; h < hours; h++) {
            settled += netting.settle();
            book.endHour();
        }
        return settled;
    }

    // ---- what would be

    public int run(int what) throws IndexOutOfBoundsException {
        if (!isFrom(what, 0, 4)) {
            throw new IndexOutOfBoundsException("nothing such of a run");
        }
        netting.begin();
        switch (what) {
            case 0:
                return netting.countTakingPart();
            case 1:
                netting.leaveOutAll();
                return netting.countTakingPart();
            case 2:
                return netting.countShort();
            case 3:
                return (int) netting.worthTakingPart();
            default:
                return (int) netting.worthOfGains();
        }
    }

    public boolean settles(int payment) throws IndexOutOfBoundsException {
        if (!isPayment(payment)) {
            throw new IndexOutOfBoundsException("no such payment");
        }
        netting.begin();
        netting.leaveOutAll();
        return book.paymentAt(payment).takesPart;
    }

    public int when(int payment) throws IndexOutOfBoundsException {
        if (!isPayment(payment)) {
            throw new IndexOutOfBoundsException("no such payment");
        }
        draft.copyFrom(book);
        Payment one = draft.paymentAt(payment);
        int hours = 0;
        while (hours < MOST_HOURS && one.state == WAITS) {
            draftNetting.settle();
            draft.endHour();
            hours++;
        }
        return one.state == SETTLED ? hours : -1;
    }

    public int frees(int party, int money) throws IndexOutOfBoundsException {
        if (!isParty(party) || !isMoney(money)) {
            throw new IndexOutOfBoundsException("no such party or money");
        }
        draft.copyFrom(book);
        for (int deposit = 0; deposit <= MOST_DEPOSIT; deposit += DEPOSIT_STEP) {
            draftNetting.begin();
            if (draftNetting.leavesOutNoneOf(party)) {
                return deposit;
            }
            draft.partyAt(party).balance.add(money, DEPOSIT_STEP);
        }
        return -1;
    }

    public int advise(int money, int amount) throws IndexOutOfBoundsException, IllegalArgumentException {
        if (!isMoney(money)) {
            throw new IndexOutOfBoundsException("no such money");
        }
        if (!isFrom(amount, 1, MOST_AMOUNT)) {
            throw new IllegalArgumentException("no such amount");
        }
        draft.copyFrom(book);
        int best = NOBODY;
        int most = draftNetting.countSettling();
        for (int p = 0; p < draft.partyCount; p++) {
            Row balance = draft.partyAt(p).balance;
            balance.add(money, amount);
            int settling = draftNetting.countSettling();
            balance.add(money, -amount);
            if (settling > most) {
                most = settling;
                best = p;
            }
        }
        return best;
    }

    public int ring(int money) throws IndexOutOfBoundsException {
        if (!isMoney(money)) {
            throw new IndexOutOfBoundsException("no such money");
        }
        fillDebts(money);
        int best = -1;
        int greatest = 0;
        for (int a = 0; a < book.partyCount; a++) {
            for (int b = a + 1; b < book.partyCount; b++) {
                for (int c = a + 1; c < book.partyCount; c++) {
                    int least = Math.min(debt(a, b), Math.min(debt(b, c), debt(c, a)));
                    if (least > greatest) {
                        greatest = least;
                        best = 100 * a + 10 * b + c;
                    }
                }
            }
        }
        return best;
    }

    // ---- reports

    public int report(int day) throws IllegalArgumentException {
        if (day < 0) {
            throw new IllegalArgumentException("no such day");
        }
        paper.length = 0;
        for (int n = 0; n < book.paymentCount; n++) {
            Payment payment = book.paymentAt(n);
            if (payment.due == day) {
                writePayment(payment);
            }
        }
        return paper.length;
    }

    private void writePayment(Payment payment) {
        paper.appendWord(book.partyAt(payment.from).name);
        paper.append(' ');
        paper.appendWord(book.partyAt(payment.to).name);
        paper.append(' ');
        paper.appendNumber(payment.amount);
        paper.append(' ');
        paper.appendWord(book.moneyAt(payment.money).name);
        paper.append(' ');
        paper.append(letterOf(payment.state));
        paper.append('\n');
    }

    private static char letterOf(int state) {
        switch (state) {
            case WAITS: return 'w';
            case SETTLED: return 's';
            case FAILED: return 'f';
            default: return 'c';
        }
    }

    public int byteAt(int index) throws IndexOutOfBoundsException {
        if (!isFrom(index, 0, paper.length - 1)) {
            throw new IndexOutOfBoundsException("no such place on the paper");
        }
        return paper.at(index);
    }

    public double kept() {
        int settled = book.countInState(SETTLED);
        int ended = settled + book.countInState(FAILED);
        return ended == 0 ? 1.0 : (double) settled / ended;
    }

    public long digest() {
        long d = 647;
        for (int what = 0; what <= 11; what++) {
            d = d * 31 + counted(what);
        }
        d = digestParties(d);
        d = digestMoneys(d);
        d = digestPayments(d);
        for (int k = 0; k < paper.length; k++) {
            d = d * 31 + paper.at(k);
        }
        return d;
    }

    private long digestParties(long before) {
        long d = before;
        for (int p = 0; p < book.partyCount; p++) {
            for (int what = 0; what <= 6; what++) {
                d = d * 31 + toldOfParty(p, what);
            }
            for (int m = 0; m < book.moneyCount; m++) {
                d = d * 31 + book.partyAt(p).balance.at(m);
                d = d * 31 + book.partyAt(p).collateral.at(m);
            }
        }
        return d;
    }

    private long digestMoneys(long before) {
        long d = before;
        for (int m = 0; m < book.moneyCount; m++) {
            for (int what = 0; what <= 3; what++) {
                d = d * 31 + toldOfMoney(m, what);
            }
        }
        return d;
    }

    private long digestPayments(long before) {
        long d = before;
        for (int n = 0; n < book.paymentCount; n++) {
            for (int what = 0; what <= 8; what++) {
                d = d * 31 + toldOfPayment(n, what);
            }
        }
        return d;
    }

    // ---- what is asked of arguments

    private boolean isParty(int number) {
        return isFrom(number, 0, book.partyCount - 1);
    }

    private boolean isMoney(int number) {
        return isFrom(number, 0, book.moneyCount - 1);
    }

    private boolean isPayment(int number) {
        return isFrom(number, 0, book.paymentCount - 1);
    }

    private static boolean isFrom(int number, int least, int most) {
        return number >= least && number <= most;
    }

    /** A row of numbers, 0 outside of its ends, so that no index goes astray. */
    private static final class Row {
        final int[] numbers;

        Row(int size) {
            numbers = new int[size < 0 ? 0 : size];
        }

        int at(int index) {
            return index >= 0 && index < numbers.length ? numbers[index] : 0;
        }

        void add(int index, int number) {
            if (index >= 0 && index < numbers.length) {
                numbers[index] += number;
            }
        }

        void clear() {
            for (int k = 0; k < numbers.length; k++) {
                numbers[k] = 0;
            }
        }

        void copyFrom(Row other) {
            for (int k = 0; k < numbers.length; k++) {
                numbers[k] = other.at(k);
            }
        }
    }

    /** A row of bytes that grows up to its size: the tape, and the paper. */
    private static final class ByteRow {
        private final byte[] bytes;
        int length;

        ByteRow(int size) {
            bytes = new byte[size < 0 ? 0 : size];
        }

        /** The byte at a place, 0 to 255; -1 where there is none. */
        int at(int index) {
            return index >= 0 && index < length && index < bytes.length ? bytes[index] & 255 : -1;
        }

        void append(int one) {
            if (length >= 0 && length < bytes.length) {
                bytes[length] = (byte) one;
                length++;
            }
        }

        void appendFour(int four) {
            for (int shift = 24; shift >= 0; shift -= 8) {
                append(four >>> shift);
            }
        }

        void appendWord(long word) {
            for (int shift = 8 * LONGEST_WORD - 8; shift >= 0; shift -= 8) {
                int one = (int) (word >>> shift) & 255;
                if (one != 0) {
                    append(one);
                }
            }
        }

        void appendNumber(int number) {
            for (int unit = MOST_AMOUNT; unit > 0; unit /= 10) {
                if (number >= unit) {
                    append('0' + number / unit % 10);
                }
            }
        }
    }

    /** The tokens of the tape, and whether they are a text. */
    private static final class Text {
        final ByteRow tape = new ByteRow(MOST_BYTES);
        // One place more, for what ends the tokens: the end of the tape, or what is no token.
        private final int[] kinds = new int[MOST_TOKENS + 1];
        private final int[] places = new int[MOST_TOKENS + 1];
        private final long[] values = new long[MOST_TOKENS + 1];
        private int count;
        private int reached;
        private int kind;
        private int place;
        private int behind;
        private long value;

        /** Reads up to the end of the tape or to the first that is no token; this comes last. */
        void readTokens() {
            count = 0;
            behind = 0;
            kind = SEMICOLON;
            int most = Math.min(kinds.length, Math.min(places.length, values.length));
            for (int k = 0; k < most && kind != END && kind != NO_TOKEN; k++) {
                readToken();
                kinds[k] = kind;
                places[k] = place;
                values[k] = value;
                count = k + 1;
            }
        }

        private void readToken() {
            skipBlanks();
            value = 0;
            if (place >= tape.length) {
                kind = END;
            } else if (count == MOST_TOKENS) {
                kind = NO_TOKEN;
            } else if (tape.at(place) == ';') {
                kind = SEMICOLON;
                behind = place + 1;
            } else if (isDigit(tape.at(place))) {
                readNumber();
            } else if (isLetter(tape.at(place))) {
                readWord();
            } else {
                kind = NO_TOKEN;
            }
        }

        private void skipBlanks() {
            place = behind;
            while (place < tape.length && (tape.at(place) == ' ' || tape.at(place) == '\n')) {
                place++;
            }
        }

        private void readNumber() {
            behind = place;
            while (behind < tape.length && isDigit(tape.at(behind))) {
                value = value * 10 + (tape.at(behind) - '0');
                behind++;
            }
            kind = behind - place > LONGEST_NUMBER ? NO_TOKEN : NUMBER;
        }

        private void readWord() {
            behind = place;
            while (behind < tape.length && (isLetter(tape.at(behind)) || isDigit(tape.at(behind)))) {
                value = value << 8 | tape.at(behind);
                behind++;
            }
            kind = behind - place > LONGEST_WORD ? NO_TOKEN : kindOfWord(value);
        }

        private static int kindOfWord(long word) {
            for (int k = 0; k < KEYWORDS.length; k++) {
                if (KEYWORDS[k] == word) {
                    return k;
                }
            }
            return NAME;
        }

        private static boolean isDigit(int one) {
            return one >= '0' && one <= '9';
        }

        private static boolean isLetter(int one) {
            return one >= 'a' && one <= 'z';
        }

        boolean isText() {
            reached = 0;
            for (int sentence = 0; sentence < count && kindAt(reached) != END; sentence++) {
                if (!takesSentence()) {
                    return false;
                }
            }
            return kindAt(reached) == END;
        }

        private boolean takesSentence() {
            switch (kindAt(reached)) {
                case PARTY:
                    return takes(PARTY) && takes(NAME) && takesNumberIfBehind(LINE) && takes(SEMICOLON);
                case MONEY:
                    return takes(MONEY) && takes(NAME) && takes(RATE) && takes(NUMBER)
                        && takes(CUT) && takes(NUMBER) && takes(SEMICOLON);
                case PAY:
                    return takes(PAY) && takes(NAME) && takes(TO) && takes(NAME)
                        && takes(NUMBER) && takes(NAME) && takes(ON) && takes(NUMBER)
                        && takesNumberIfBehind(FOR) && takes(SEMICOLON);
                case HOLD:
                    return takes(HOLD) && takes(NUMBER) && takes(SEMICOLON);
                case CANCEL:
                    return takes(CANCEL) && takes(NUMBER) && takes(SEMICOLON);
                default:
                    return false;
            }
        }

        private boolean takesNumberIfBehind(int keyword) {
            return kindAt(reached) != keyword || takes(keyword) && takes(NUMBER);
        }

        private boolean takes(int wanted) {
            if (kindAt(reached) != wanted) {
                return false;
            }
            reached++;
            return true;
        }

        /** The place of the token at which isText stopped. */
        int placeReached() {
            return placeAt(reached);
        }

        int tokenCount() {
            return count;
        }

        int kindAt(int token) {
            return token >= 0 && token < count && token < kinds.length ? kinds[token] : NO_TOKEN;
        }

        int placeAt(int token) {
            return token >= 0 && token < count && token < places.length ? places[token] : -1;
        }

        long wordAt(int token) {
            return token >= 0 && token < count && token < values.length ? values[token] : 0;
        }

        int numberAt(int token) {
            return (int) wordAt(token);
        }
    }

    /** Carries out the sentences of a text that has no error 1. */
    private static final class Teller {
        final Text text = new Text();
        int errorPlace;
        private int error;
        private int start;

        /** Returns 0 or the first error; the book is told what stands ahead of it, too. */
        int tellAll(Book book) {
            error = 0;
            errorPlace = -1;
            start = 0;
            int most = text.tokenCount();
            for (int k = 0; k < most && error == 0 && text.kindAt(start) != END; k++) {
                tellSentence(book);
                goBehindSentence();
            }
            return error;
        }

        private void goBehindSentence() {
            while (start < text.tokenCount() && text.kindAt(start) != SEMICOLON) {
                start++;
            }
            start++;
        }

        private void tellSentence(Book book) {
            switch (text.kindAt(start)) {
                case PARTY:
                    tellParty(book);
                    break;
                case MONEY:
                    tellMoney(book);
                    break;
                case PAY:
                    tellPay(book);
                    break;
                case HOLD:
                    tellHold(book);
                    break;
                case CANCEL:
                    tellCancel(book);
                    break;
                default:
                    break;
            }
        }

        private void refuse(int which, int token) {
            error = which;
            errorPlace = text.placeAt(token);
        }

        private void tellParty(Book book) {
            long name = text.wordAt(start + 1);
            boolean hasLine = text.kindAt(start + 2) == LINE;
            int line = hasLine ? text.numberAt(start + 3) : 0;
            if (book.isNamed(name)) {
                refuse(2, start + 1);
            } else if (book.partyCount >= MOST_PARTIES) {
                refuse(4, start + 1);
            } else if (!isFrom(line, 0, MOST_LINE)) {
                refuse(5, start + 3);
            } else {
                book.addParty(name, line);
            }
        }

        private void tellMoney(Book book) {
            long name = text.wordAt(start + 1);
            int rate = text.numberAt(start + 3);
            int cut = text.numberAt(start + 5);
            if (book.isNamed(name)) {
                refuse(2, start + 1);
            } else if (book.moneyCount >= MOST_MONEYS) {
                refuse(4, start + 1);
            } else if (!isFrom(rate, 1, MOST_RATE)) {
                refuse(5, start + 3);
            } else if (!isFrom(cut, 1, LATEST_CUT)) {
                refuse(5, start + 5);
            } else {
                book.addMoney(name, rate, cut);
            }
        }

        private void tellPay(Book book) {
            int from = book.partyNamed(text.wordAt(start + 1));
            int to = book.partyNamed(text.wordAt(start + 3));
            int amount = text.numberAt(start + 4);
            int money = book.moneyNamed(text.wordAt(start + 5));
            int due = text.numberAt(start + 7);
            boolean hasPartner = text.kindAt(start + 8) == FOR;
            int partner = hasPartner ? text.numberAt(start + 9) : NOBODY;
            if (from == NOBODY) {
                refuse(3, start + 1);
            } else if (book.paymentCount >= MOST_PAYMENTS) {
                refuse(4, start + 1);
            } else if (to == NOBODY) {
                refuse(3, start + 3);
            } else if (to == from) {
                refuse(6, start + 3);
            } else if (!isFrom(amount, 1, MOST_AMOUNT)) {
                refuse(5, start + 4);
            } else if (money == NOBODY) {
                refuse(3, start + 5);
            } else if (!isFrom(due, book.day, book.day + MOST_DAYS_AHEAD)) {
                refuse(5, start + 7);
            } else if (hasPartner && !book.canBePartner(partner)) {
                refuse(5, start + 9);
            } else {
                book.addPayment(from, to, amount, money, due);
                book.linkLastTo(partner);
            }
        }

        private void tellHold(Book book) {
            int number = text.numberAt(start + 1);
            if (!book.isWaiting(number)) {
                refuse(5, start + 1);
            } else {
                Payment payment = book.paymentAt(number);
                payment.isHeld = !payment.isHeld;
            }
        }

        private void tellCancel(Book book) {
            int number = text.numberAt(start + 1);
            if (!book.isWaiting(number)) {
                refuse(5, start + 1);
            } else {
                book.callOff(book.paymentAt(number));
            }
        }
    }

    private static final class Party {
        long name;
        int line;
        boolean inDefault;
        final Row balance = new Row(MOST_MONEYS);
        final Row collateral = new Row(MOST_MONEYS);
        // What a run works with; outside of a run it means nothing.
        final Row netted = new Row(MOST_MONEYS);
        long limitNow;
        long exposureNow;
        boolean isShort;

        void moveToCollateral(int money, int amount) {
            balance.add(money, -amount);
            collateral.add(money, amount);
        }

        void copyFrom(Party other) {
            name = other.name;
            line = other.line;
            inDefault = other.inDefault;
            balance.copyFrom(other.balance);
            collateral.copyFrom(other.collateral);
        }
    }

    private static final class Money {
        long name;
        int rate;
        int cut;

        void copyFrom(Money other) {
            name = other.name;
            rate = other.rate;
            cut = other.cut;
        }
    }

    private static final class Payment {
        int from;
        int to;
        int amount;
        int money;
        int due;
        int partner;
        int state;
        int settledAt;
        boolean isHeld;
        // What a run works with; outside of a run it means nothing.
        boolean takesPart;

        void copyFrom(Payment other) {
            from = other.from;
            to = other.to;
            amount = other.amount;
            money = other.money;
            due = other.due;
            partner = other.partner;
            state = other.state;
            settledAt = other.settledAt;
            isHeld = other.isHeld;
        }
    }

    /** All that is told and what has become of it: parties, moneys, payments and the time. */
    private static final class Book {
        private final Party[] parties = new Party[MOST_PARTIES];
        private final Money[] moneys = new Money[MOST_MONEYS];
        private final Payment[] payments = new Payment[MOST_PAYMENTS];
        int partyCount;
        int moneyCount;
        int paymentCount;
        int day;
        int hour;

        Book() {
            for (int p = 0; p < parties.length; p++) {
                parties[p] = new Party();
            }
            for (int m = 0; m < moneys.length; m++) {
                moneys[m] = new Money();
            }
            for (int n = 0; n < payments.length; n++) {
                payments[n] = new Payment();
            }
        }

        // No caller asks for a place that is not there; the first one stands for such a place,
        // so that the machine has nothing to throw.
        Party partyAt(int number) {
            return parties[number >= 0 && number < parties.length ? number : 0];
        }

        Money moneyAt(int number) {
            return moneys[number >= 0 && number < moneys.length ? number : 0];
        }

        Payment paymentAt(int number) {
            return payments[number >= 0 && number < payments.length ? number : 0];
        }

        /** The partner of a payment, null for none. */
        Payment partnerOf(Payment payment) {
            return isFrom(payment.partner, 0, paymentCount - 1) ? paymentAt(payment.partner) : null;
        }

        void copyFrom(Book other) {
            partyCount = other.partyCount;
            moneyCount = other.moneyCount;
            paymentCount = other.paymentCount;
            day = other.day;
            hour = other.hour;
            for (int p = 0; p < partyCount; p++) {
                partyAt(p).copyFrom(other.partyAt(p));
            }
            for (int m = 0; m < moneyCount; m++) {
                moneyAt(m).copyFrom(other.moneyAt(m));
            }
            for (int n = 0; n < paymentCount; n++) {
                paymentAt(n).copyFrom(other.paymentAt(n));
            }
        }

        // ---- telling

        int partyNamed(long name) {
            for (int p = 0; p < partyCount; p++) {
                if (partyAt(p).name == name) {
                    return p;
                }
            }
            return NOBODY;
        }

        int moneyNamed(long name) {
            for (int m = 0; m < moneyCount; m++) {
                if (moneyAt(m).name == name) {
                    return m;
                }
            }
            return NOBODY;
        }

        boolean isNamed(long name) {
            return partyNamed(name) != NOBODY || moneyNamed(name) != NOBODY;
        }

        boolean isWaiting(int number) {
            return isFrom(number, 0, paymentCount - 1) && paymentAt(number).state == WAITS;
        }

        boolean canBePartner(int number) {
            return isWaiting(number) && paymentAt(number).partner == NOBODY;
        }

        // A place may have been used for a text that was refused then: everything in it is set.
        void addParty(long name, int line) {
            Party party = partyAt(partyCount);
            party.name = name;
            party.line = line;
            party.inDefault = false;
            party.balance.clear();
            party.collateral.clear();
            partyCount++;
        }

        void addMoney(long name, int rate, int cut) {
            Money money = moneyAt(moneyCount);
            money.name = name;
            money.rate = rate;
            money.cut = cut;
            moneyCount++;
        }

        void addPayment(int from, int to, int amount, int money, int due) {
            Payment payment = paymentAt(paymentCount);
            payment.from = from;
            payment.to = to;
            payment.amount = amount;
            payment.money = money;
            payment.due = due;
            payment.partner = NOBODY;
            payment.state = WAITS;
            payment.settledAt = -1;
            payment.isHeld = false;
            paymentCount++;
        }

        void linkLastTo(int partner) {
            if (isWaiting(partner)) {
                paymentAt(partner).partner = paymentCount - 1;
                paymentAt(paymentCount - 1).partner = partner;
            }
        }

        void callOff(Payment payment) {
            Payment partner = partnerOf(payment);
            if (partner != null) {
                partner.partner = NOBODY;
            }
            payment.partner = NOBODY;
            payment.state = CANCELLED;
        }

        // ---- counting

        int countInState(int state) {
            int found = 0;
            for (int n = 0; n < paymentCount; n++) {
                if (paymentAt(n).state == state) {
                    found++;
                }
            }
            return found;
        }

        int countInDefault() {
            int found = 0;
            for (int p = 0; p < partyCount; p++) {
                if (partyAt(p).inDefault) {
                    found++;
                }
            }
            return found;
        }

        int countWaitingOf(int party) {
            int found = 0;
            for (int n = 0; n < paymentCount; n++) {
                if (isWaiting(n) && paymentAt(n).from == party) {
                    found++;
                }
            }
            return found;
        }

        int countWaitingTo(int party) {
            int found = 0;
            for (int n = 0; n < paymentCount; n++) {
                if (isWaiting(n) && paymentAt(n).to == party) {
                    found++;
                }
            }
            return found;
        }

        int waitingAmountIn(int money) {
            int sum = 0;
            for (int n = 0; n < paymentCount; n++) {
                if (isWaiting(n) && paymentAt(n).money == money) {
                    sum += paymentAt(n).amount;
                }
            }
            return sum;
        }

        // ---- what a party can bear

        long worthOf(int amount, int money) {
            return (long) amount * moneyAt(money).rate / 100;
        }

        long limitOf(Party party) {
            long limit = party.line;
            for (int m = 0; m < moneyCount; m++) {
                limit += worthOf(party.collateral.at(m), m) * 9 / 10;
            }
            return limit;
        }

        // Runs ask this most often: it reads the rows themselves.
        long exposureOf(Row balances) {
            long exposure = 0;
            int[] numbers = balances.numbers;
            for (int m = 0; m < moneyCount && m < numbers.length && m < moneys.length; m++) {
                if (numbers[m] < 0) {
                    exposure += (-(long) numbers[m] * moneys[m].rate + 99) / 100;
                }
            }
            return exposure;
        }

        long roomOf(Party party) {
            return limitOf(party) - exposureOf(party.balance);
        }

        // ---- the end of an hour

        void endHour() {
            hour++;
            if (hour == HOURS_A_DAY) {
                hour = 0;
                day++;
                chargeInterest();
                findDefaults();
            }
            failLatePayments();
        }

        private void chargeInterest() {
            for (int p = 0; p < partyCount; p++) {
                Row balance = partyAt(p).balance;
                for (int m = 0; m < moneyCount; m++) {
                    balance.add(m, interestOn(balance.at(m)));
                }
            }
        }

        private static int interestOn(int balance) {
            if (balance >= 0 || balance < LEAST_BY_INTEREST) {
                return 0;
            }
            return Math.max(balance / 100, LEAST_BY_INTEREST - balance);
        }

        private void findDefaults() {
            for (int p = 0; p < partyCount; p++) {
                Party party = partyAt(p);
                party.inDefault = roomOf(party) < 0;
            }
        }

        private void failLatePayments() {
            for (int n = 0; n < paymentCount; n++) {
                Payment payment = paymentAt(n);
                if (payment.state == WAITS && isLate(payment)) {
                    fail(payment);
                    Payment partner = partnerOf(payment);
                    if (partner != null && partner.state == WAITS) {
                        fail(partner);
                    }
                }
            }
        }

        private boolean isLate(Payment payment) {
            return payment.due < day || payment.due == day && moneyAt(payment.money).cut <= hour;
        }

        private void fail(Payment payment) {
            payment.state = FAILED;
            int fee = payment.amount / 100;
            partyAt(payment.from).balance.add(payment.money, -fee);
            partyAt(payment.to).balance.add(payment.money, fee);
        }
    }

    /** The run of an hour, on one book. Up to settle() it changes only what runs work with. */
    private static final class Netting {
        final Book book = new Book();

        /** Finds who takes part at first, and nets all of it. */
        void begin() {
            for (int p = 0; p < book.partyCount; p++) {
                Party party = book.partyAt(p);
                party.netted.copyFrom(party.balance);
                party.limitNow = book.limitOf(party);
                party.exposureNow = book.exposureOf(party.balance);
            }
            for (int n = 0; n < book.paymentCount; n++) {
                Payment payment = book.paymentAt(n);
                Payment partner = book.partnerOf(payment);
                payment.takesPart = canTakePart(payment) && (partner == null || canTakePart(partner));
                if (payment.takesPart) {
                    moveNetted(payment, payment.amount);
                }
            }
            for (int p = 0; p < book.partyCount; p++) {
                lookWhetherShort(book.partyAt(p));
            }
        }

        private boolean canTakePart(Payment payment) {
            return payment.state == WAITS && payment.due == book.day && !payment.isHeld
                && book.moneyAt(payment.money).cut > book.hour
                && !book.partyAt(payment.from).inDefault && !book.partyAt(payment.to).inDefault;
        }

        private void moveNetted(Payment payment, int amount) {
            book.partyAt(payment.from).netted.add(payment.money, -amount);
            book.partyAt(payment.to).netted.add(payment.money, amount);
        }

        private void lookWhetherShort(Party party) {
            long exposure = book.exposureOf(party.netted);
            party.isShort = exposure > party.limitNow && exposure > party.exposureNow;
        }

        void leaveOutAll() {
            int rounds = 0;
            while (rounds < MOST_PAYMENTS && leavesOneOut()) {
                rounds++;
            }
        }

        /** Leaves out one payment, and its partner; false if no party is short. */
        private boolean leavesOneOut() {
            Payment dearest = dearestOf(firstShort());
            if (dearest == null) {
                return false;
            }
            leaveOut(dearest);
            Payment partner = book.partnerOf(dearest);
            if (partner != null && partner.takesPart) {
                leaveOut(partner);
            }
            return true;
        }

        private void leaveOut(Payment payment) {
            payment.takesPart = false;
            moveNetted(payment, -payment.amount);
            lookWhetherShort(book.partyAt(payment.from));
            lookWhetherShort(book.partyAt(payment.to));
        }

        private int firstShort() {
            for (int p = 0; p < book.partyCount; p++) {
                if (book.partyAt(p).isShort) {
                    return p;
                }
            }
            return NOBODY;
        }

        /** Of the payments of a party that take part the one to leave out first, null for none. */
        private Payment dearestOf(int party) {
            Payment dearest = null;
            long most = 0;
            for (int n = 0; n < book.paymentCount && party != NOBODY; n++) {
                Payment payment = book.paymentAt(n);
                if (payment.takesPart && payment.from == party) {
                    long price = (long) payment.amount * book.moneyAt(payment.money).rate;
                    if (price >= most) {
                        most = price;
                        dearest = payment;
                    }
                }
            }
            return dearest;
        }

        /** Ends the run in what settles, and returns how many payments that are. */
        int settle() {
            begin();
            leaveOutAll();
            int settled = 0;
            for (int n = 0; n < book.paymentCount; n++) {
                Payment payment = book.paymentAt(n);
                if (payment.takesPart) {
                    payment.state = SETTLED;
                    payment.settledAt = HOURS_A_DAY * book.day + book.hour;
                    settled++;
                }
            }
            for (int p = 0; p < book.partyCount; p++) {
                Party party = book.partyAt(p);
                party.balance.copyFrom(party.netted);
            }
            return settled;
        }

        int countSettling() {
            begin();
            leaveOutAll();
            return countTakingPart();
        }

        /** Behind begin(): stops as soon as one of these is left out, as none comes in again. */
        boolean leavesOutNoneOf(int party) {
            int atFirst = countTakingPartOf(party);
            int rounds = 0;
            while (rounds < MOST_PAYMENTS && countTakingPartOf(party) == atFirst && leavesOneOut()) {
                rounds++;
            }
            return countTakingPartOf(party) == atFirst;
        }

        private int countTakingPartOf(int party) {
            int found = 0;
            for (int n = 0; n < book.paymentCount; n++) {
                if (book.paymentAt(n).takesPart && book.paymentAt(n).from == party) {
                    found++;
                }
            }
            return found;
        }

        int countTakingPart() {
            int found = 0;
            for (int n = 0; n < book.paymentCount; n++) {
                if (book.paymentAt(n).takesPart) {
                    found++;
                }
            }
            return found;
        }

        int countShort() {
            int found = 0;
            for (int p = 0; p < book.partyCount; p++) {
                if (book.partyAt(p).isShort) {
                    found++;
                }
            }
            return found;
        }

        long worthTakingPart() {
            long worth = 0;
            for (int n = 0; n < book.paymentCount; n++) {
                Payment payment = book.paymentAt(n);
                if (payment.takesPart) {
                    worth += book.worthOf(payment.amount, payment.money);
                }
            }
            return worth;
        }

        long worthOfGains() {
            long worth = 0;
            for (int p = 0; p < book.partyCount; p++) {
                Party party = book.partyAt(p);
                for (int m = 0; m < book.moneyCount; m++) {
                    int gain = party.netted.at(m) - party.balance.at(m);
                    if (gain > 0) {
                        worth += book.worthOf(gain, m);
                    }
                }
            }
            return worth;
        }
    }
}
