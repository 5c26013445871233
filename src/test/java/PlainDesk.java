import java.util.ArrayList;
import java.util.List;
import java.util.TreeSet;
import java.util.regex.Matcher;
import java.util.regex.Pattern;

/**
 * The document told a second time, sentence by sentence and without any thrift, to compare with.
 * It shares no code with NettingDesk. A refused call answers one of the three numbers below.
 */
final class PlainDesk {
    static final long INDEX = Long.MIN_VALUE + 1;
    static final long ARGUMENT = Long.MIN_VALUE + 2;
    static final long STATE = Long.MIN_VALUE + 3;

    private static final Pattern TOKEN = Pattern.compile("[a-z][a-z0-9]*|[0-9]+|;");
    private static final Pattern GRAMMAR =
        Pattern.compile("(?:PN(?:L#)?;|MNR#C#;|YNT N#NO#(?:F#)?;|H#;|X#;)*".replace(" ", ""));
    private static final List<String> KEYWORDS =
        List.of("party", "line", "money", "rate", "cut", "pay", "to", "on", "for", "hold", "cancel");
    private static final String LETTERS = "PLMRCYTOFHX";

    static final class P {
        String name;
        long line;
        boolean def;
        List<Long> balance = new ArrayList<>();
        List<Long> collateral = new ArrayList<>();
    }

    static final class M {
        String name;
        long rate;
        long cut;
    }

    static final class Y {
        int from;
        int to;
        long amount;
        int money;
        long due;
        int partner = -1;
        int state;
        boolean held;
        long at = -1;
    }

    String tape = "";
    String paper = "";
    int error = -1;
    long day;
    long hour;
    List<P> ps = new ArrayList<>();
    List<M> ms = new ArrayList<>();
    List<Y> ys = new ArrayList<>();

    PlainDesk copy() {
        PlainDesk c = new PlainDesk();
        c.tape = tape;
        c.paper = paper;
        c.error = error;
        c.day = day;
        c.hour = hour;
        for (P p : ps) {
            P q = new P();
            q.name = p.name;
            q.line = p.line;
            q.def = p.def;
            q.balance.addAll(p.balance);
            q.collateral.addAll(p.collateral);
            c.ps.add(q);
        }
        for (M m : ms) {
            M q = new M();
            q.name = m.name;
            q.rate = m.rate;
            q.cut = m.cut;
            c.ms.add(q);
        }
        for (Y y : ys) {
            Y q = new Y();
            q.from = y.from;
            q.to = y.to;
            q.amount = y.amount;
            q.money = y.money;
            q.due = y.due;
            q.partner = y.partner;
            q.state = y.state;
            q.held = y.held;
            q.at = y.at;
            c.ys.add(q);
        }
        return c;
    }

    // ---- the language

    long feed(int... five) {
        if (tape.length() > 1980) {
            return STATE;
        }
        StringBuilder more = new StringBuilder(tape);
        for (int x : five) {
            more.append((char) (x >> 24 & 255)).append((char) (x >> 16 & 255))
                .append((char) (x >> 8 & 255)).append((char) (x & 255));
        }
        tape = more.toString();
        return tape.length();
    }

    long trim(int n) {
        if (n < 0 || n > tape.length()) {
            return ARGUMENT;
        }
        tape = tape.substring(0, n);
        return n;
    }

    long teach() {
        String read = tape;
        tape = "";
        error = -1;
        List<String> tokens = new ArrayList<>();
        List<Integer> places = new ArrayList<>();
        StringBuilder kinds = new StringBuilder();
        int at = 0;
        while (true) {
            while (at < read.length() && (read.charAt(at) == 32 || read.charAt(at) == 10)) {
                at++;
            }
            Matcher token = TOKEN.matcher(read).region(at, read.length());
            boolean is = at < read.length() && tokens.size() < 400 && token.lookingAt();
            if (is) {
                String t = token.group();
                int most = Character.isDigit(t.charAt(0)) ? 7 : 8;
                is = t.length() <= most;
            }
            if (!is) {
                if (at == read.length() && GRAMMAR.matcher(kinds).matches()) {
                    break;
                }
                error = at;
                return 1;
            }
            String t = token.group();
            kinds.append(KEYWORDS.contains(t) ? LETTERS.charAt(KEYWORDS.indexOf(t))
                : Character.isDigit(t.charAt(0)) ? '#' : t.equals(";") ? ';' : 'N');
            Matcher grammar = GRAMMAR.matcher(kinds);
            if (!grammar.matches() && !grammar.hitEnd()) {
                error = at;
                return 1;
            }
            tokens.add(t);
            places.add(at);
            at = token.end();
        }
        PlainDesk tried = copy();
        int from = 0;
        while (from < tokens.size()) {
            int to = from + tokens.subList(from, tokens.size()).indexOf(";");
            int[] wrong = tried.sentence(tokens.subList(from, to));
            if (wrong != null) {
                error = places.get(from + wrong[1]);
                return wrong[0];
            }
            from = to + 1;
        }
        ps = tried.ps;
        ms = tried.ms;
        ys = tried.ys;
        return 0;
    }

    private int partyOf(String name) {
        for (int k = 0; k < ps.size(); k++) {
            if (ps.get(k).name.equals(name)) {
                return k;
            }
        }
        return -1;
    }

    private int moneyOf(String name) {
        for (int k = 0; k < ms.size(); k++) {
            if (ms.get(k).name.equals(name)) {
                return k;
            }
        }
        return -1;
    }

    private boolean waitsAt(long n) {
        return n < ys.size() && ys.get((int) n).state == 0;
    }

    /** Carries a sentence out; or the smallest error at the first token that has one. */
    private int[] sentence(List<String> s) {
        for (int k = 1; k < s.size(); k++) {
            TreeSet<Integer> errors = errorsAt(s, k);
            if (!errors.isEmpty()) {
                return new int[] {errors.first(), k};
            }
        }
        switch (s.get(0)) {
            case "party" -> {
                P p = new P();
                p.name = s.get(1);
                p.line = s.size() > 2 ? Long.parseLong(s.get(3)) : 0;
                for (int m = 0; m < 5; m++) {
                    p.balance.add(0L);
                    p.collateral.add(0L);
                }
                ps.add(p);
            }
            case "money" -> {
                M m = new M();
                m.name = s.get(1);
                m.rate = Long.parseLong(s.get(3));
                m.cut = Long.parseLong(s.get(5));
                ms.add(m);
            }
            case "pay" -> {
                Y y = new Y();
                y.from = partyOf(s.get(1));
                y.to = partyOf(s.get(3));
                y.amount = Long.parseLong(s.get(4));
                y.money = moneyOf(s.get(5));
                y.due = Long.parseLong(s.get(7));
                if (s.size() > 8) {
                    y.partner = Integer.parseInt(s.get(9));
                    ys.get(y.partner).partner = ys.size();
                }
                ys.add(y);
            }
            case "hold" -> {
                Y y = ys.get(Integer.parseInt(s.get(1)));
                y.held ^= true;
            }
            default -> {
                Y y = ys.get(Integer.parseInt(s.get(1)));
                y.state = 3;
                if (y.partner != -1) {
                    ys.get(y.partner).partner = -1;
                }
                y.partner = -1;
            }
        }
        return null;
    }

    private TreeSet<Integer> errorsAt(List<String> s, int k) {
        TreeSet<Integer> errors = new TreeSet<>();
        String sort = s.get(0);
        String t = s.get(k);
        long x = Character.isDigit(t.charAt(0)) ? Long.parseLong(t) : -1;
        String where = sort + k;
        boolean known = partyOf(t) != -1 || moneyOf(t) != -1;
        if ((where.equals("party1") || where.equals("money1")) && known) {
            errors.add(2);
        }
        if ((where.equals("pay1") || where.equals("pay3")) && partyOf(t) == -1
            || where.equals("pay5") && moneyOf(t) == -1) {
            errors.add(3);
        }
        if (where.equals("party1") && ps.size() == 10 || where.equals("money1") && ms.size() == 5
            || where.equals("pay1") && ys.size() == 60) {
            errors.add(4);
        }
        boolean in = switch (where) {
            case "party3" -> x <= 1000000;
            case "money3" -> x >= 1 && x <= 1000;
            case "money5" -> x >= 1 && x <= 23;
            case "pay4" -> x >= 1 && x <= 100000;
            case "pay7" -> x >= day && x <= day + 30;
            case "pay9" -> waitsAt(x) && ys.get((int) x).partner == -1;
            case "hold1", "cancel1" -> waitsAt(x);
            default -> true;
        };
        if (!in) {
            errors.add(5);
        }
        if (where.equals("pay3") && t.equals(s.get(1))) {
            errors.add(6);
        }
        return errors;
    }

    long errorAt() {
        return error;
    }

    long count(int what) {
        return switch (what) {
            case 0 -> ps.size();
            case 1 -> ms.size();
            case 2 -> ys.size();
            case 3, 4, 5, 6 -> ys.stream().filter(y -> y.state == what - 3).count();
            case 7 -> day;
            case 8 -> hour;
            case 9 -> ps.stream().filter(p -> p.def).count();
            case 10 -> tape.length();
            case 11 -> paper.length();
            default -> INDEX;
        };
    }

    // ---- parties and moneys

    private boolean noParty(int n) {
        return n < 0 || n >= ps.size();
    }

    private boolean noMoney(int n) {
        return n < 0 || n >= ms.size();
    }

    private boolean noPayment(int n) {
        return n < 0 || n >= ys.size();
    }

    private long limit(P p) {
        long limit = p.line;
        for (int m = 0; m < ms.size(); m++) {
            long worth = p.collateral.get(m) * ms.get(m).rate / 100;
            limit += worth * 9 / 10;
        }
        return limit;
    }

    private long exposure(List<Long> balances) {
        long exposure = 0;
        for (int m = 0; m < ms.size(); m++) {
            if (balances.get(m) < 0) {
                exposure += (-balances.get(m) * ms.get(m).rate + 99) / 100;
            }
        }
        return exposure;
    }

    private long room(P p) {
        return limit(p) - exposure(p.balance);
    }

    long party(int party, int what) {
        if (noParty(party)) {
            return INDEX;
        }
        P p = ps.get(party);
        return switch (what) {
            case 0 -> p.line;
            case 1 -> limit(p);
            case 2 -> exposure(p.balance);
            case 3 -> room(p);
            case 4 -> p.def ? 1 : 0;
            case 5 -> ys.stream().filter(y -> y.state == 0 && y.from == party).count();
            case 6 -> ys.stream().filter(y -> y.state == 0 && y.to == party).count();
            default -> INDEX;
        };
    }

    long money(int money, int what) {
        if (noMoney(money)) {
            return INDEX;
        }
        M m = ms.get(money);
        return switch (what) {
            case 0 -> m.rate;
            case 1 -> m.cut;
            case 2 -> m.cut > hour ? 1 : 0;
            case 3 -> ys.stream().filter(y -> y.state == 0 && y.money == money).mapToLong(y -> y.amount).sum();
            default -> INDEX;
        };
    }

    long setRate(int money, int rate) {
        if (noMoney(money)) {
            return INDEX;
        }
        if (rate < 1 || rate > 1000) {
            return ARGUMENT;
        }
        long before = ms.get(money).rate;
        ms.get(money).rate = rate;
        return before;
    }

    long has(int party, int money, boolean isCollateral) {
        if (noParty(party) || noMoney(money)) {
            return INDEX;
        }
        return (isCollateral ? ps.get(party).collateral : ps.get(party).balance).get(money);
    }

    private static void add(List<Long> row, int at, long more) {
        row.set(at, row.get(at) + more);
    }

    long deposit(int party, int money, int amount) {
        if (noParty(party) || noMoney(money)) {
            return INDEX;
        }
        if (amount < 1 || amount > 100000) {
            return ARGUMENT;
        }
        add(ps.get(party).balance, money, amount);
        return ps.get(party).balance.get(money);
    }

    long withdraw(int party, int money, int amount) {
        if (noParty(party) || noMoney(money)) {
            return INDEX;
        }
        if (amount < 1 || amount > 100000) {
            return ARGUMENT;
        }
        if (ps.get(party).balance.get(money) - amount < 0) {
            return STATE;
        }
        add(ps.get(party).balance, money, -amount);
        return ps.get(party).balance.get(money);
    }

    long pledge(int party, int money, int amount) {
        if (noParty(party) || noMoney(money)) {
            return INDEX;
        }
        if (amount == 0 || amount < -100000 || amount > 100000) {
            return ARGUMENT;
        }
        P then = copy().ps.get(party);
        add(then.balance, money, -amount);
        add(then.collateral, money, amount);
        if (amount > 0 && then.balance.get(money) < 0
            || amount < 0 && (then.collateral.get(money) < 0 || room(then) < 0)) {
            return STATE;
        }
        ps.set(party, then);
        return room(then);
    }

    // ---- payments

    long payment(int payment, int what) {
        if (noPayment(payment)) {
            return INDEX;
        }
        Y y = ys.get(payment);
        return switch (what) {
            case 0 -> y.from;
            case 1 -> y.to;
            case 2 -> y.amount;
            case 3 -> y.money;
            case 4 -> y.due;
            case 5 -> y.partner;
            case 6 -> y.state;
            case 7 -> y.held ? 1 : 0;
            case 8 -> y.at;
            default -> INDEX;
        };
    }

    long amend(int payment, int amount) {
        if (noPayment(payment)) {
            return INDEX;
        }
        if (amount < 1 || amount > 100000) {
            return ARGUMENT;
        }
        if (ys.get(payment).state != 0) {
            return STATE;
        }
        long before = ys.get(payment).amount;
        ys.get(payment).amount = amount;
        return before;
    }

    long putOff(int payment, int days) {
        if (noPayment(payment)) {
            return INDEX;
        }
        if (days < 1 || days > 30) {
            return ARGUMENT;
        }
        if (ys.get(payment).state != 0) {
            return STATE;
        }
        return ys.get(payment).due += days;
    }

    long owes(int a, int b, int money) {
        if (noParty(a) || noParty(b) || noMoney(money)) {
            return INDEX;
        }
        long sum = 0;
        for (Y y : ys) {
            if (y.state == 0 && y.money == money) {
                sum += y.from == a && y.to == b ? y.amount : 0;
                sum -= y.from == b && y.to == a ? y.amount : 0;
            }
        }
        return sum;
    }

    // ---- runs and hours

    private boolean mayTakePart(Y y) {
        return y.state == 0 && y.due == day && !y.held && ms.get(y.money).cut > hour
            && !ps.get(y.from).def && !ps.get(y.to).def;
    }

    private TreeSet<Integer> atFirst() {
        TreeSet<Integer> all = new TreeSet<>();
        for (int n = 0; n < ys.size(); n++) {
            Y y = ys.get(n);
            if (mayTakePart(y) && (y.partner == -1 || mayTakePart(ys.get(y.partner)))) {
                all.add(n);
            }
        }
        return all;
    }

    private List<Long> netted(int party, TreeSet<Integer> part) {
        List<Long> then = new ArrayList<>(ps.get(party).balance);
        for (int n : part) {
            Y y = ys.get(n);
            if (y.to == party) {
                add(then, y.money, y.amount);
            }
            if (y.from == party) {
                add(then, y.money, -y.amount);
            }
        }
        return then;
    }

    private List<Integer> shorts(TreeSet<Integer> part) {
        List<Integer> all = new ArrayList<>();
        for (int p = 0; p < ps.size(); p++) {
            long then = exposure(netted(p, part));
            if (then > limit(ps.get(p)) && then > exposure(ps.get(p).balance)) {
                all.add(p);
            }
        }
        return all;
    }

    private TreeSet<Integer> settling() {
        TreeSet<Integer> part = atFirst();
        while (!shorts(part).isEmpty()) {
            int who = shorts(part).get(0);
            int out = -1;
            for (int n : part) {
                Y y = ys.get(n);
                if (y.from == who && (out == -1
                    || y.amount * ms.get(y.money).rate >= ys.get(out).amount * ms.get(ys.get(out).money).rate)) {
                    out = n;
                }
            }
            part.remove(out);
            part.remove(ys.get(out).partner);
        }
        return part;
    }

    private long hour() {
        TreeSet<Integer> part = settling();
        List<List<Long>> then = new ArrayList<>();
        for (int p = 0; p < ps.size(); p++) {
            then.add(netted(p, part));
        }
        for (int p = 0; p < ps.size(); p++) {
            ps.get(p).balance = then.get(p);
        }
        for (int n : part) {
            ys.get(n).state = 1;
            ys.get(n).at = 24 * day + hour;
        }
        hour = (hour + 1) % 24;
        if (hour == 0) {
            newDay();
        }
        for (int n = 0; n < ys.size(); n++) {
            Y y = ys.get(n);
            if (y.state == 0 && (y.due < day || y.due == day && ms.get(y.money).cut <= hour)) {
                fail(y);
                if (y.partner != -1 && ys.get(y.partner).state == 0) {
                    fail(ys.get(y.partner));
                }
            }
        }
        return part.size();
    }

    private void newDay() {
        day++;
        for (P p : ps) {
            for (int m = 0; m < ms.size(); m++) {
                long b = p.balance.get(m);
                if (b < 0 && b >= -10000000) {
                    p.balance.set(m, Math.max(b - -b / 100, -10000000));
                }
            }
        }
        for (P p : ps) {
            p.def = room(p) < 0;
        }
    }

    private void fail(Y y) {
        y.state = 2;
        add(ps.get(y.from).balance, y.money, -(y.amount / 100));
        add(ps.get(y.to).balance, y.money, y.amount / 100);
    }

    long pass(int hours) {
        if (hours < 1 || hours > 100) {
            return ARGUMENT;
        }
        long settled = 0;
        for (int k = 0; k < hours; k++) {
            settled += hour();
        }
        return settled;
    }

    // ---- what would be

    long run(int what) {
        TreeSet<Integer> first = atFirst();
        return switch (what) {
            case 0 -> first.size();
            case 1 -> settling().size();
            case 2 -> shorts(first).size();
            case 3 -> first.stream().mapToLong(n -> ys.get(n).amount * ms.get(ys.get(n).money).rate / 100).sum();
            case 4 -> gains(first);
            default -> INDEX;
        };
    }

    private long gains(TreeSet<Integer> first) {
        long sum = 0;
        for (int p = 0; p < ps.size(); p++) {
            for (int m = 0; m < ms.size(); m++) {
                long more = netted(p, first).get(m) - ps.get(p).balance.get(m);
                sum += more > 0 ? more * ms.get(m).rate / 100 : 0;
            }
        }
        return sum;
    }

    long settles(int payment) {
        return noPayment(payment) ? INDEX : settling().contains(payment) ? 1 : 0;
    }

    long when(int payment) {
        if (noPayment(payment)) {
            return INDEX;
        }
        PlainDesk then = copy();
        for (int hours = 0; hours <= 100; hours++) {
            if (then.ys.get(payment).state == 1) {
                return hours;
            }
            then.hour();
        }
        return -1;
    }

    long frees(int party, int money) {
        if (noParty(party) || noMoney(money)) {
            return INDEX;
        }
        for (int deposit = 0; deposit <= 50000; deposit += 500) {
            PlainDesk then = copy();
            add(then.ps.get(party).balance, money, deposit);
            TreeSet<Integer> out = then.atFirst();
            out.removeAll(then.settling());
            if (out.stream().noneMatch(n -> ys.get(n).from == party)) {
                return deposit;
            }
        }
        return -1;
    }

    long advise(int money, int amount) {
        if (noMoney(money)) {
            return INDEX;
        }
        if (amount < 1 || amount > 100000) {
            return ARGUMENT;
        }
        int best = -1;
        int most = settling().size();
        for (int p = 0; p < ps.size(); p++) {
            PlainDesk then = copy();
            then.deposit(p, money, amount);
            if (then.settling().size() > most) {
                most = then.settling().size();
                best = p;
            }
        }
        return best;
    }

    long ring(int money) {
        if (noMoney(money)) {
            return INDEX;
        }
        long best = -1;
        long greatest = 0;
        for (int number = 0; number <= 999; number++) {
            int a = number / 100;
            int b = number / 10 % 10;
            int c = number % 10;
            if (a < b && a < c && b != c && b < ps.size() && c < ps.size()) {
                long least = Math.min(owes(a, b, money), Math.min(owes(b, c, money), owes(c, a, money)));
                if (least > greatest) {
                    greatest = least;
                    best = number;
                }
            }
        }
        return best;
    }

    // ---- reports

    long report(int day) {
        if (day < 0) {
            return ARGUMENT;
        }
        paper = "";
        for (Y y : ys) {
            if (y.due == day) {
                paper += ps.get(y.from).name + " " + ps.get(y.to).name + " " + y.amount + " "
                    + ms.get(y.money).name + " " + "wsfc".charAt(y.state) + "\n";
            }
        }
        return paper.length();
    }

    long byteAt(int index) {
        return index < 0 || index >= paper.length() ? INDEX : paper.charAt(index);
    }

    double kept() {
        double settled = count(4);
        return count(4) + count(5) == 0 ? 1 : settled / (count(4) + count(5));
    }

    long digest() {
        List<Long> all = new ArrayList<>();
        for (int what = 0; what < 12; what++) {
            all.add(count(what));
        }
        for (int p = 0; p < ps.size(); p++) {
            for (int what = 0; what < 7; what++) {
                all.add(party(p, what));
            }
            for (int m = 0; m < ms.size(); m++) {
                all.add(ps.get(p).balance.get(m));
                all.add(ps.get(p).collateral.get(m));
            }
        }
        for (int m = 0; m < ms.size(); m++) {
            for (int what = 0; what < 4; what++) {
                all.add(money(m, what));
            }
        }
        for (int n = 0; n < ys.size(); n++) {
            for (int what = 0; what < 9; what++) {
                all.add(payment(n, what));
            }
        }
        for (char c : paper.toCharArray()) {
            all.add((long) c);
        }
        long d = 647;
        for (long x : all) {
            d = d * 31 + x;
        }
        return d;
    }
}
