/**
 * Every argument of every call: the last values that are taken, the first ones that are refused and
 * those furthest out, on a desk of all sorts, on an empty and on a full one; which of several
 * exceptions is thrown; and that nothing has changed behind a refused call.
 */
public final class RangeTest {
    private static final Class<?> INDEX = IndexOutOfBoundsException.class;
    private static final Class<?> ARGUMENT = IllegalArgumentException.class;
    private static final Class<?> STATE = IllegalStateException.class;

    private interface OfOne {
        void make(NettingDesk desk, int argument);
    }

    private final String where;
    private final Desks.Made made;
    private final String untouched;
    private final int parties;
    private final int moneys;
    private final int payments;
    private final int bytes;
    private final int paper;

    private RangeTest(String where, Desks.Made made) {
        this.where = where;
        this.made = made;
        this.untouched = Desks.told(made.make());
        NettingDesk desk = made.make();
        parties = desk.count(0);
        moneys = desk.count(1);
        payments = desk.count(2);
        bytes = desk.count(10);
        paper = desk.count(11);
    }

    public static void main(String[] args) {
        RangeTest empty = new RangeTest("an empty desk", NettingDesk::new);
        RangeTest mixed = new RangeTest("a desk of all sorts", Desks::mixed);
        RangeTest full = new RangeTest("a full desk", Desks::full);
        for (RangeTest one : new RangeTest[] {empty, mixed, full}) {
            one.ofNothingElse();
            one.ofPlaces();
            one.placesAheadOfArguments();
        }
        mixed.ofThings();
        full.ofThings();
        mixed.ofAmounts();
        full.ofAmounts();
        mixed.argumentsAheadOfStates();
        mixed.states();
        roomOfWhatIsMovedBack();
        fullTape();
        fullPaper();
        Check.end("RangeTest");
    }

    // ---- how a range is looked at

    private void taken(String what, Desks.Asked call) {
        Check.refused(what + " on " + where, null, () -> call.make(made.make()));
    }

    private void refused(String what, Class<?> due, Desks.Asked call) {
        NettingDesk desk = made.make();
        Check.refused(what + " on " + where, due, () -> call.make(desk));
        Check.same("all that is told behind " + what + " on " + where, Desks.told(desk), untouched);
    }

    /** Takes least and most, and refuses what is beyond them; least is more than most if none is taken. */
    private void range(String what, Class<?> due, int least, int most, OfOne call) {
        int[] all = {least, most, least - 1, most + 1, 0, -1, 1, -256, 256, 65536, -65536, 16777216,
            Integer.MIN_VALUE, Integer.MIN_VALUE + 1, Integer.MAX_VALUE};
        for (int x : all) {
            String one = what + " of " + x;
            if (x >= least && x <= most) {
                taken(one, desk -> call.make(desk, x));
            } else {
                refused(one, due, desk -> call.make(desk, x));
            }
        }
    }

    // ---- "if .. is not 0 to .."

    private void ofNothingElse() {
        range("count", INDEX, 0, 11, (desk, x) -> desk.count(x));
        range("run", INDEX, 0, 4, (desk, x) -> desk.run(x));
        range("pass", ARGUMENT, 1, 100, (desk, x) -> desk.pass(x));
        range("trim", ARGUMENT, 0, bytes, (desk, x) -> desk.trim(x));
        range("report", ARGUMENT, 0, Integer.MAX_VALUE, (desk, x) -> desk.report(x));
        range("byteAt", INDEX, 0, paper - 1, (desk, x) -> desk.byteAt(x));
    }

    /** "if there is no such party", "money", "payment", all else being right. */
    private void ofPlaces() {
        range("party", INDEX, 0, parties - 1, (desk, x) -> desk.party(x, 0));
        range("money", INDEX, 0, moneys - 1, (desk, x) -> desk.money(x, 0));
        range("payment", INDEX, 0, payments - 1, (desk, x) -> desk.payment(x, 0));
        range("settles", INDEX, 0, payments - 1, (desk, x) -> desk.settles(x));
        range("when", INDEX, 0, payments - 1, (desk, x) -> desk.when(x));
        range("setRate, money,", INDEX, 0, moneys - 1, (desk, x) -> desk.setRate(x, 1));
        range("advise, money,", INDEX, 0, moneys - 1, (desk, x) -> desk.advise(x, 1));
        range("ring", INDEX, 0, moneys - 1, (desk, x) -> desk.ring(x));
        boolean isAny = parties > 0 && moneys > 0;
        int lastParty = isAny ? parties - 1 : -1;
        int lastMoney = isAny ? moneys - 1 : -1;
        range("has, party,", INDEX, 0, lastParty, (desk, x) -> desk.has(x, 0, false));
        range("has, money,", INDEX, 0, lastMoney, (desk, x) -> desk.has(0, x, true));
        range("deposit, party,", INDEX, 0, lastParty, (desk, x) -> desk.deposit(x, 0, 1));
        range("deposit, money,", INDEX, 0, lastMoney, (desk, x) -> desk.deposit(0, x, 1));
        range("owes, a,", INDEX, 0, lastParty, (desk, x) -> desk.owes(x, 0, 0));
        range("owes, b,", INDEX, 0, lastParty, (desk, x) -> desk.owes(0, x, 0));
        range("owes, money,", INDEX, 0, lastMoney, (desk, x) -> desk.owes(0, 0, x));
        range("frees, party,", INDEX, 0, lastParty, (desk, x) -> desk.frees(x, 0));
        range("frees, money,", INDEX, 0, lastMoney, (desk, x) -> desk.frees(0, x));
        range("withdraw, party,", INDEX, 0, lastParty, (desk, x) -> withdrawn(desk, x, 0, 1));
        range("withdraw, money,", INDEX, 0, lastMoney, (desk, x) -> withdrawn(desk, 0, x, 1));
        range("pledge, party,", INDEX, 0, lastParty, (desk, x) -> pledged(desk, x, 0, 1));
        range("pledge, money,", INDEX, 0, lastMoney, (desk, x) -> pledged(desk, 0, x, 1));
        range("amend", INDEX, 0, payments - 1, (desk, x) -> amendedIfWaiting(desk, x));
        range("putOff", INDEX, 0, payments - 1, (desk, x) -> putOffIfWaiting(desk, x));
    }

    /** With the balance that it takes, if there are such a party and money. */
    private static void withdrawn(NettingDesk desk, int party, int money, int amount) {
        fill(desk, party, money, amount);
        desk.withdraw(party, money, amount);
    }

    private static void pledged(NettingDesk desk, int party, int money, int amount) {
        fill(desk, party, money, amount);
        desk.pledge(party, money, amount);
    }

    private static void fill(NettingDesk desk, int party, int money, int amount) {
        if (party >= 0 && party < desk.count(0) && money >= 0 && money < desk.count(1)
            && amount >= 1 && amount <= 100000) {
            desk.deposit(party, money, 100000);
        }
    }

    private static void amendedIfWaiting(NettingDesk desk, int payment) {
        if (payment < 0 || payment >= desk.count(2) || desk.payment(payment, 6) == 0) {
            desk.amend(payment, 1);
        }
    }

    private static void putOffIfWaiting(NettingDesk desk, int payment) {
        if (payment < 0 || payment >= desk.count(2) || desk.payment(payment, 6) == 0) {
            desk.putOff(payment, 1);
        }
    }

    /** "if .. what is not 0 to ..": of the first and of the last one. */
    private void ofThings() {
        for (int p : new int[] {0, parties - 1}) {
            range("what of the party " + p, INDEX, 0, 6, (desk, x) -> desk.party(p, x));
        }
        for (int m : new int[] {0, moneys - 1}) {
            range("what of the money " + m, INDEX, 0, 3, (desk, x) -> desk.money(m, x));
        }
        for (int n : new int[] {0, payments - 1}) {
            range("what of the payment " + n, INDEX, 0, 8, (desk, x) -> desk.payment(n, x));
        }
    }

    /** Amounts, rates and days, of the last ones: the payment waits. */
    private void ofAmounts() {
        int p = parties - 1;
        int m = moneys - 1;
        int n = payments - 1;
        range("setRate", ARGUMENT, 1, 1000, (desk, x) -> desk.setRate(m, x));
        range("deposit", ARGUMENT, 1, 100000, (desk, x) -> desk.deposit(p, m, x));
        range("withdraw", ARGUMENT, 1, 100000, (desk, x) -> withdrawn(desk, p, m, x));
        range("amend", ARGUMENT, 1, 100000, (desk, x) -> desk.amend(n, x));
        range("putOff", ARGUMENT, 1, 30, (desk, x) -> desk.putOff(n, x));
        range("advise", ARGUMENT, 1, 100000, (desk, x) -> desk.advise(m, x));
        for (int x : new int[] {1, -1, 100000, -100000}) {
            taken("pledge of " + x, desk -> {
                desk.deposit(p, m, 100000);
                desk.deposit(p, m, 100000);
                desk.pledge(p, m, 100000);
                desk.pledge(p, m, x);
            });
        }
        int[] beyond = {0, 100001, -100001, 200000, -200000, Integer.MAX_VALUE, -Integer.MAX_VALUE,
            Integer.MIN_VALUE};
        for (int x : beyond) {
            refused("pledge of " + x, ARGUMENT, desk -> desk.pledge(p, m, x));
        }
    }

    // ---- "the one that is named first is thrown"

    /** No such place goes ahead of no such amount, and of what there is not enough of. */
    private void placesAheadOfArguments() {
        int[] noParties = {-1, parties, 10, Integer.MIN_VALUE, Integer.MAX_VALUE};
        int[] noMoneys = {-1, moneys, 5, Integer.MIN_VALUE, Integer.MAX_VALUE};
        int[] noPayments = {-1, payments, 60, Integer.MIN_VALUE, Integer.MAX_VALUE};
        for (int k = 0; k < noParties.length; k++) {
            int p = noParties[k];
            int m = noMoneys[k];
            int n = noPayments[k];
            for (int x : new int[] {0, -1, 100001, -100001, 100000, Integer.MIN_VALUE, Integer.MAX_VALUE}) {
                String of = " of " + x + " with " + p + ", " + m + ", " + n;
                refused("setRate" + of, INDEX, desk -> desk.setRate(m, x));
                refused("deposit, party," + of, INDEX, desk -> desk.deposit(p, 0, x));
                refused("deposit, money," + of, INDEX, desk -> desk.deposit(0, m, x));
                refused("withdraw, party," + of, INDEX, desk -> desk.withdraw(p, 0, x));
                refused("withdraw, money," + of, INDEX, desk -> desk.withdraw(0, m, x));
                refused("pledge, party," + of, INDEX, desk -> desk.pledge(p, 0, x));
                refused("pledge, money," + of, INDEX, desk -> desk.pledge(0, m, x));
                refused("amend" + of, INDEX, desk -> desk.amend(n, x));
                refused("putOff" + of, INDEX, desk -> desk.putOff(n, x));
                refused("advise" + of, INDEX, desk -> desk.advise(m, x));
            }
        }
    }

    /** No such amount goes ahead of what there is not enough of, and of what does not wait. */
    private void argumentsAheadOfStates() {
        for (int x : new int[] {0, -1, 100001, Integer.MIN_VALUE, Integer.MAX_VALUE}) {
            // the party 0 has -110 of the money 0, the payments 0, 1 and 5 have ended
            refused("withdraw of too much, " + x, ARGUMENT, desk -> desk.withdraw(0, 0, x));
            for (int n : new int[] {0, 1, 5}) {
                refused("amend of " + n + " to " + x, ARGUMENT, desk -> desk.amend(n, x));
                refused("putOff of " + n + " by " + x, ARGUMENT, desk -> desk.putOff(n, x));
            }
        }
        refused("pledge of 100001 out of -110", ARGUMENT, desk -> desk.pledge(0, 0, 100001));
        refused("pledge of -100001 out of 0", ARGUMENT, desk -> desk.pledge(0, 0, -100001));
        refused("pledge of 0 out of 0", ARGUMENT, desk -> desk.pledge(0, 0, 0));
        refused("putOff by 31 of one that is settled", ARGUMENT, desk -> desk.putOff(0, 31));
    }

    // ---- "IllegalStateException if .."

    private void states() {
        // the party 2 has 60 and a collateral of 140 of the money 0
        taken("withdraw of 60", desk -> Check.same("withdraw of 60", desk.withdraw(2, 0, 60), 0));
        refused("withdraw of 61", STATE, desk -> desk.withdraw(2, 0, 61));
        refused("withdraw of 100000", STATE, desk -> desk.withdraw(2, 0, 100000));
        refused("withdraw of 1 out of -110", STATE, desk -> desk.withdraw(0, 0, 1));
        refused("withdraw of 1 out of 0", STATE, desk -> desk.withdraw(0, 1, 1));
        taken("pledge of 60", desk -> Check.same("pledge of 60", desk.pledge(2, 0, 60), 20 + 270));
        refused("pledge of 61", STATE, desk -> desk.pledge(2, 0, 61));
        refused("pledge of 100000", STATE, desk -> desk.pledge(2, 0, 100000));
        refused("pledge of 1 out of -110", STATE, desk -> desk.pledge(0, 0, 1));
        taken("pledge of -140", desk -> Check.same("pledge of -140", desk.pledge(2, 0, -140), 20));
        refused("pledge of -141", STATE, desk -> desk.pledge(2, 0, -141));
        refused("pledge of -100000", STATE, desk -> desk.pledge(2, 0, -100000));
        refused("pledge of -1 out of 0", STATE, desk -> desk.pledge(0, 0, -1));
        for (int n : new int[] {0, 1, 5}) {
            refused("amend of " + n + ", which has ended", STATE, desk -> desk.amend(n, 1));
            refused("amend of " + n + " to 100000", STATE, desk -> desk.amend(n, 100000));
            refused("putOff of " + n + ", which has ended", STATE, desk -> desk.putOff(n, 1));
            refused("putOff of " + n + " by 30", STATE, desk -> desk.putOff(n, 30));
        }
        for (int n : new int[] {2, 3, 4, 8}) {
            taken("amend of " + n + ", which waits", desk -> desk.amend(n, 100000));
            taken("putOff of " + n + ", which waits", desk -> desk.putOff(n, 30));
        }
    }

    /** A collateral of 10 gives a limit of 9, one of 9 of 8; the debt is of another money. */
    private static NettingDesk withDebtOf(int debt) {
        NettingDesk desk = Check.deskTold("party a; party b; money m rate 100 cut 9; money n rate 100 cut 9;"
            + "pay a to b " + debt + " n on 0;");
        desk.deposit(0, 0, 10);
        desk.pledge(0, 0, 10);
        Check.same("settles", desk.pass(1), 1);
        return desk;
    }

    /** "or, of so much back, the room": 0 is taken, -1 is not; to the collateral no room is needed. */
    private static void roomOfWhatIsMovedBack() {
        RangeTest none = new RangeTest("a desk without room", () -> withDebtOf(9));
        none.refused("pledge of -1", STATE, desk -> desk.pledge(0, 0, -1));
        none.refused("pledge of -10", STATE, desk -> desk.pledge(0, 0, -10));
        RangeTest one = new RangeTest("a desk with a room of 1", () -> withDebtOf(8));
        one.taken("pledge of -1", desk -> Check.same("pledge of -1", desk.pledge(0, 0, -1), 0));
        one.refused("pledge of -2", STATE, desk -> desk.pledge(0, 0, -2));
        one.refused("pledge of -11", STATE, desk -> desk.pledge(0, 0, -11));
        NettingDesk below = withDebtOf(9);
        below.setRate(1, 1000);
        below.deposit(0, 0, 1);
        Check.same("room", below.party(0, 3), 9 - 90);
        Check.same("pledge of 1 with a room below 0", below.pledge(0, 0, 1), 9 - 90);
        Check.state("pledge of -1 with a room below 0", () -> below.pledge(0, 0, -1));
    }

    // ---- the full tape and the full paper

    private static NettingDesk withTapeOf(int bytes) {
        NettingDesk desk = new NettingDesk();
        StringBuilder text = new StringBuilder("party a line 5;");
        while (text.length() < bytes) {
            text.append(text.length() % 7 == 0 ? '\n' : ' ');
        }
        Check.write(desk, text.toString());
        return desk;
    }

    private static void fullTape() {
        for (int bytes = 1981; bytes <= 2000; bytes++) {
            int one = bytes;
            RangeTest full = new RangeTest("a tape of " + bytes, () -> withTapeOf(one));
            full.refused("feed", STATE, desk -> desk.feed(-1, -1, -1, -1, -1));
            full.refused("feed of 0", STATE, desk -> desk.feed(0, 0, 0, 0, 0));
        }
        RangeTest last = new RangeTest("a tape of 1980", () -> withTapeOf(1980));
        last.taken("feed", desk -> Check.same("feed", desk.feed(0, 0, 0, 0, 0), 2000));
        RangeTest full = new RangeTest("a tape of 2000", () -> withTapeOf(2000));
        full.range("trim", ARGUMENT, 0, 2000, (desk, x) -> Check.same("trim", desk.trim(x), x));
    }

    private static NettingDesk withFullPaper() {
        NettingDesk desk = Check.deskTold("party abcdefgh; party abcdefgi; money abcdefgj rate 1 cut 23;");
        StringBuilder text = new StringBuilder();
        for (int k = 0; k < 30; k++) {
            text.append("pay abcdefgh to abcdefgi 100000 abcdefgj on 0;");
        }
        Check.told(desk, text.toString());
        Check.told(desk, text.toString());
        desk.report(0);
        return desk;
    }

    private static void fullPaper() {
        NettingDesk desk = withFullPaper();
        String line = "abcdefgh abcdefgi 100000 abcdefgj w\n";
        Check.same("the fullest paper", desk.count(11), 60 * line.length());
        int[] places = {0, 1, 35, 36, 1079, 1080, 2158, 2159};
        for (int x : places) {
            Check.same("byteAt of " + x, desk.byteAt(x), line.charAt(x % line.length()));
        }
        for (int x : new int[] {-1, 2160, 2161, Integer.MIN_VALUE, Integer.MAX_VALUE}) {
            Check.index("byteAt of " + x, () -> desk.byteAt(x));
        }
        Check.same("the paper behind refused ones", desk.byteAt(2159), 10);
        Check.same("the next report is in its place", desk.report(1), 0);
        Check.index("byteAt of 0 then", () -> desk.byteAt(0));
    }
}
