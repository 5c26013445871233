/** The edges of promises 17 and 19 to 28: debts, what would be, rings, the paper, kept and digest. */
public final class WouldBeEdgeTest {
    public static void main(String[] args) {
        runsOfNothing();
        worthsOfARun();
        gainsOfARun();
        settlesOfWhatHasEnded();
        whenOfEachHour();
        whenItNeverSettles();
        whenAsThingsGoOn();
        freesEachMultiple();
        freesItsOwnAlone();
        freesByTheMoneyThatHelps();
        advisesIfMoreSettle();
        advisesTheSmallest();
        owesWhatWaits();
        ringsOfDebts();
        ringsOfTenParties();
        lettersAndAmounts();
        paperIsReplaced();
        keptParts();
        digestWrapsAround();
        Check.end("WouldBeEdgeTest");
    }

    private static int yes(boolean answer) {
        return answer ? 1 : 0;
    }

    // ---- run, settles

    private static void runsOfNothing() {
        String[] texts = {"", "party a; party b;", "money m rate 1 cut 1;", "party a; party b; money m rate 100 cut 9;",
            "party a; party b line 9; money m rate 100 cut 9; pay b to a 9 m on 1; pay b to a 9 m on 0; hold 1;"
                + "pay b to a 9 m on 0; cancel 2;"};
        for (String text : texts) {
            NettingDesk desk = Check.deskTold(text);
            for (int what = 0; what <= 4; what++) {
                Check.same("run " + what + " with " + text, desk.run(what), 0);
            }
        }
    }

    /** "the worth of all amounts that take part at first, added": each cut by itself. */
    private static void worthsOfARun() {
        NettingDesk desk = Check.deskTold("party a line 9; party b line 9; money m rate 33 cut 9; money n rate 99 cut 9;"
            + "pay a to b 3 m on 0; pay b to a 3 m on 0; pay a to b 4 m on 0; pay b to a 1 n on 0; pay a to b 2 n on 0;");
        // 0.99, 0.99, 1.32, 0.99 and 1.98
        Check.same("worths", desk.run(3), 2);
        desk.setRate(0, 34);
        Check.same("worths at 34", desk.run(3), 4);
        desk.setRate(1, 100);
        Check.same("worths at 100", desk.run(3), 6);
    }

    /** "what balances would become more by": 0 and less do not count, each of a party and a money is cut. */
    private static void gainsOfARun() {
        NettingDesk desk = Check.deskTold("party a line 99; party b line 99; party c; money m rate 100 cut 9;"
            + "money n rate 100 cut 9; pay a to b 5 m on 0; pay b to a 5 m on 0;");
        Check.same("gains of nothing", desk.run(4), 0);
        Check.told(desk, "pay a to c 1 m on 0;");
        Check.same("a gain of 1", desk.run(4), 1);
        desk.setRate(0, 99);
        Check.same("a gain of 0.99", desk.run(4), 0);
        Check.told(desk, "pay b to c 1 n on 0; pay b to c 1 m on 0;");
        Check.same("gains of 1.98 and 1", desk.run(4), 2);
        Check.told(desk, "pay c to a 1 n on 0;");
        Check.same("gains of 1.98 and, of another party, 1", desk.run(4), 2);
        // all these, even if some are to be left out
        Check.told(desk, "pay c to b 9000 m on 0;");
        Check.same("settling", desk.run(1), 6);
        Check.same("gains of all", desk.run(4), 8999 * 99 / 100 + 1);
    }

    private static void settlesOfWhatHasEnded() {
        NettingDesk desk = Desks.mixed();
        boolean[] due = {false, false, false, false, false, false, false, false, false, true, false};
        for (int n = 0; n < due.length; n++) {
            Check.same("settles " + n, yes(desk.settles(n)), yes(due[n]));
        }
        Check.same("as many as run tells", desk.run(1), 1);
        Check.same("and settle", desk.pass(1), 1);
        Check.same("the one", desk.payment(9, 6), 1);
        Check.same("settles no more", yes(desk.settles(9)), 0);
    }

    // ---- when

    /** "behind how many hours it is settled, .. at most 100": the 100th is, the 101st is not. */
    private static void whenOfEachHour() {
        for (int hour = 0; hour < 24; hour++) {
            NettingDesk desk = Check.deskTold("party a line 99; party b; money m rate 100 cut 23;"
                + "pay a to b 1 m on 1; pay a to b 1 m on 2; pay a to b 1 m on 3; pay a to b 1 m on 4; pay a to b 1 m on 5;");
            if (hour > 0) {
                desk.pass(hour);
            }
            for (int n = 0; n < 5; n++) {
                int hours = 24 * (n + 1) - hour + 1;
                Check.same("when " + n + " at " + hour, desk.when(n), hours <= 100 ? hours : -1);
            }
        }
        NettingDesk desk = Check.deskTold("party a line 99; party b; money m rate 100 cut 23; pay a to b 1 m on 5;");
        desk.pass(20);
        Check.same("in 101 hours", desk.when(0), -1);
        desk.pass(1);
        Check.same("in 100 hours", desk.when(0), 100);
        Check.same("pass 99 of them", desk.pass(99), 0);
        Check.same("in 1 hour", desk.when(0), 1);
        Check.same("pass the last one", desk.pass(1), 1);
        Check.same("in 0 hours", desk.when(0), 0);
    }

    /** "-1 if not by then": failed, cancelled, held, left out up to its cut, or with such a partner. */
    private static void whenItNeverSettles() {
        NettingDesk desk = Desks.mixed();
        int[] due = {0, -1, -1, -1, -1, -1, 0, 0, -1, 1, -1};
        for (int n = 0; n < due.length; n++) {
            Check.same("when " + n, desk.when(n), due[n]);
        }
        NettingDesk pair = Check.deskTold("party a line 9; party b line 9; money m rate 100 cut 9; money n rate 100 cut 3;"
            + "pay a to b 5 m on 1; pay b to a 5 n on 1 for 0; pay a to b 5 m on 2; pay b to a 5 n on 1 for 2;");
        Check.same("when of both", pair.when(0) * 100 + pair.when(1), 25 * 100 + 25);
        Check.same("when of one whose partner is due earlier", pair.when(2), -1);
        Check.same("when of that partner", pair.when(3), -1);
    }

    /** Its interest, defaults and fees come as they would. */
    private static void whenAsThingsGoOn() {
        for (int line = 204; line <= 206; line++) {
            // -200 becomes -202 and -204; on the day 2 another 1 makes it -205
            NettingDesk desk = Check.deskTold("party a line " + line + "; party b; money m rate 100 cut 23;"
                + "pay a to b 200 m on 0; pay a to b 1 m on 2;");
            Check.same("pass", desk.pass(1), 1);
            Check.same("when, with the line " + line, desk.when(1), line < 205 ? -1 : 48);
        }
        // a comes into default at the end of the day 1, and b's payment to it fails
        for (int line = 201; line <= 202; line++) {
            NettingDesk desk = Check.deskTold("party a line " + line + "; party b line 9; money m rate 100 cut 23;"
                + "pay a to b 200 m on 1; pay b to a 1 m on 2;");
            Check.same("when to one in default", desk.when(1), line < 202 ? -1 : 49);
        }
        // what another one settles at 24 is there at 25
        NettingDesk desk = Check.deskTold("party a line 50; party b; party c; money m rate 100 cut 23;"
            + "pay a to b 50 m on 1; hold 0; pay b to c 50 m on 2; pay b to c 50 m on 1;");
        Check.same("when of what b has not", desk.when(1), -1);
        Check.told(desk, "hold 0;");
        Check.same("when with what b gets", desk.when(2), 25);
        Check.same("when with what b has paid", desk.when(1), -1);
    }

    // ---- frees, advise

    /** "the multiples of 500 from 0 to 50000": each of them, and what is 1 more than it. */
    private static void freesEachMultiple() {
        for (int k = 0; k <= 100; k++) {
            NettingDesk desk = Check.deskTold("party a; party b; money m rate 100 cut 9; pay a to b 1 m on 0;");
            if (k > 0) {
                desk.amend(0, 500 * k);
                Check.same("frees of " + 500 * k, desk.frees(0, 0), 500 * k);
            }
            desk.amend(0, 500 * k + 1);
            Check.same("frees of " + (500 * k + 1), desk.frees(0, 0), k < 100 ? 500 * k + 500 : -1);
            Check.same("its balance", desk.has(0, 0, false), 0);
            desk.deposit(0, 0, 1);
            Check.same("frees of " + (500 * k + 1) + " with 1", desk.frees(0, 0), 500 * k);
        }
        NettingDesk most = Check.deskTold("party a line 50000; party b; money m rate 100 cut 9; pay a to b 100000 m on 0;");
        Check.same("frees of 100000 with a line", most.frees(0, 0), 50000);
    }

    /** "none of the payments of this party that take part at first": 0 if there is none. */
    private static void freesItsOwnAlone() {
        NettingDesk desk = Desks.mixed();
        Check.same("of one in default", desk.frees(1, 0), 0);
        Check.same("of one that pays 20", desk.frees(0, 0), 0);
        Check.same("of one that pays 900", desk.frees(2, 1), 500);
        NettingDesk none = Check.deskTold("party a; party b; money m rate 100 cut 9; pay a to b 700 m on 0;");
        Check.same("of one that pays nothing", none.frees(1, 0), 0);
        Check.same("of one that pays 700", none.frees(0, 0), 1000);
        Check.told(none, "hold 0;");
        Check.same("of one whose payment is held", none.frees(0, 0), 0);
        Check.told(none, "hold 0; cancel 0;");
        Check.same("of one whose payment is cancelled", none.frees(0, 0), 0);
        // it needs what another one leaves out: then no deposit of that other one is looked at
        NettingDesk chain = Check.deskTold("party a; party b; party c; money m rate 100 cut 9;"
            + "pay a to b 700 m on 0; pay b to c 700 m on 0;");
        Check.same("of b, to whom a pays nothing", chain.frees(1, 0), 1000);
        Check.same("of a", chain.frees(0, 0), 1000);
        // a deposit of the one lets its partner settle, not the other way round
        NettingDesk pair = Check.deskTold("party a; party b line 99; money m rate 100 cut 9; money n rate 100 cut 9;"
            + "pay a to b 700 m on 0; pay b to a 10 n on 0 for 0;");
        Check.same("of a", pair.frees(0, 0), 1000);
        Check.same("of b", pair.frees(1, 0), -1);
        Check.same("of b in the other money", pair.frees(1, 1), -1);
    }

    private static void freesByTheMoneyThatHelps() {
        NettingDesk desk = Check.deskTold("party a line 9000; party b; money m rate 100 cut 23; money n rate 10 cut 23;"
            + "pay a to b 9000 m on 0;");
        desk.pass(1);
        Check.told(desk, "pay a to b 5000 n on 0;");
        // 500 more than the limit: by 500 of the one, or 5000 of the other
        Check.same("in the money of the debt", desk.frees(0, 0), 500);
        Check.same("in the money of the payment", desk.frees(0, 1), 5000);
        desk.amend(1, 5001);
        Check.same("1 more, in the money of the debt", desk.frees(0, 0), 1000);
        Check.same("1 more, in the money of the payment", desk.frees(0, 1), 5500);
        // the deposit makes its exposure of now less, too: over its limit it is short then, if not before
        NettingDesk over = Check.deskTold("party a line 600; party b line 9000; money m rate 100 cut 23;"
            + "pay a to b 600 m on 0;");
        over.pass(1);
        over.setRate(0, 200);
        Check.told(over, "pay a to b 10 m on 0; pay b to a 10 m on 0;");
        Check.same("of one that is over its limit, netted to nothing", over.frees(0, 0), 0);
        over.amend(1, 11);
        Check.same("of one that is over its limit, netted to 1 less", over.frees(0, 0), 500);
    }

    /** "but none, if these are not more than without". */
    private static void advisesIfMoreSettle() {
        for (int more = -1; more <= 1; more++) {
            NettingDesk desk = Check.deskTold("party a; party b; money m rate 100 cut 9; money n rate 100 cut 9;"
                + "pay a to b 500 m on 0;");
            Check.same("advise of 500 and " + more, desk.advise(0, 500 + more), more < 0 ? -1 : 0);
            Check.same("advise in the other money", desk.advise(1, 500 + more), -1);
        }
        Check.same("advise without parties", Check.deskTold("money m rate 1 cut 1;").advise(0, 1), -1);
        Check.same("advise without payments", Check.deskTold("party a; money m rate 1 cut 1;").advise(0, 100000), -1);
        NettingDesk most = Check.deskTold("party a; party b; money m rate 100 cut 9; pay a to b 100000 m on 0;");
        Check.same("advise of 99999", most.advise(0, 99999), -1);
        Check.same("advise of 100000", most.advise(0, 100000), 0);
        NettingDesk least = Check.deskTold("party a; party b; money m rate 100 cut 9; pay b to a 1 m on 0;");
        Check.same("advise of 1", least.advise(0, 1), 1);
        // all settle already, or one does for another one
        least.deposit(1, 0, 1);
        Check.same("advise where all settle", least.advise(0, 100000), -1);
    }

    /** "of several the one with the smallest number", and the most ahead of that. */
    private static void advisesTheSmallest() {
        NettingDesk desk = Check.deskTold("party z; party a; party b; party c; money m rate 100 cut 9;"
            + "pay a to z 10 m on 0; pay b to z 10 m on 0; pay c to z 5 m on 0; pay c to z 5 m on 0;");
        Check.same("one each by 5: c", desk.advise(0, 5), 3);
        Check.same("one of a, or of b, or two of c by 10", desk.advise(0, 10), 3);
        Check.told(desk, "cancel 3;");
        Check.same("one of each by 10: a", desk.advise(0, 10), 1);
        Check.told(desk, "cancel 0;");
        Check.same("one of each but a: b", desk.advise(0, 10), 2);
        Check.told(desk, "pay z to c 10 m on 0;");
        // z has 10 to pay and gets 5 of c, which pays them of these 10; b lacks 10
        Check.same("two by z with 5", desk.advise(0, 5), 0);
        Check.same("three by b with 10", desk.advise(0, 10), 2);
    }

    // ---- owes, ring

    /** "payments .. that wait, less those of b to a": held, due later and with a partner, too. */
    private static void owesWhatWaits() {
        NettingDesk desk = Desks.mixed();
        int[][] due = {{0, -50, 20}, {50, 0, -10}, {-20, 10, 0}};
        for (int a = 0; a < 3; a++) {
            for (int b = 0; b < 3; b++) {
                Check.same(a + " owes " + b, desk.owes(a, b, 0), due[a][b]);
                Check.same(a + " owes " + b + " in n", desk.owes(a, b, 1), a + b != 2 || a == b ? 0 : a == 0 ? -7 : 7);
            }
        }
        NettingDesk much = Check.deskTold("party a; party b; money m rate 1 cut 9;" + "pay b to a 100000 m on 0;".repeat(39));
        Check.told(much, "pay b to a 100000 m on 30;".repeat(21));
        Check.same("6000000", much.owes(1, 0, 0), 6000000);
        Check.same("-6000000", much.owes(0, 1, 0), -6000000);
        Check.same("the money's", much.money(0, 3), 6000000);
        Check.same("of b", much.party(1, 5), 60);
        Check.same("to b", much.party(1, 6), 0);
        Check.same("of a", much.party(0, 5), 0);
        Check.same("to a", much.party(0, 6), 60);
    }

    /** "more than 0": a debt of 1 makes a ring, one of 0 does not; three parties at the least. */
    private static void ringsOfDebts() {
        Check.same("of no party", Check.deskTold("money m rate 1 cut 9;").ring(0), -1);
        Check.same("of two parties",
            Check.deskTold("party a; party b; money m rate 1 cut 9; pay a to b 5 m on 0;").ring(0), -1);
        String three = "party a; party b; party c; money m rate 1 cut 9; money n rate 1 cut 9;";
        NettingDesk desk = Check.deskTold(three + "pay a to b 1 m on 0; pay b to c 1 m on 9; pay c to a 1 m on 30;");
        Check.same("of debts of 1", desk.ring(0), 12);
        Check.told(desk, "hold 0; hold 1; hold 2;");
        Check.same("of held ones", desk.ring(0), 12);
        Check.told(desk, "pay c to b 1 m on 3;");
        Check.same("with a debt of 0", desk.ring(0), -1);
        Check.told(desk, "pay b to c 1 n on 3;");
        Check.same("with a debt in another money", desk.ring(0), -1);
        desk.amend(3, 2);
        Check.same("with a debt the other way round", desk.ring(0), -1);
        desk.amend(1, 3);
        Check.same("with a debt of 1 again", desk.ring(0), 12);
        Check.told(desk, "cancel 2;");
        Check.same("without one of three", desk.ring(0), -1);
        NettingDesk other = Check.deskTold(three + "pay a to c 7 m on 0; pay c to b 7 m on 0; pay b to a 7 m on 0;");
        Check.same("the other way round", other.ring(0), 21);
        Check.same("they settle", other.pass(1), 3);
        Check.same("of settled ones", other.ring(0), -1);
    }

    private static String name(int party) {
        return "p" + party;
    }

    private static String ring(int a, int b, int c, int least) {
        return "pay " + name(a) + " to " + name(b) + " " + least + " m on 0; pay " + name(b) + " to " + name(c) + " "
            + (least + 5) + " m on 0; pay " + name(c) + " to " + name(a) + " " + (least + 9) + " m on 0;";
    }

    /** "a less than both others", "100 * a + 10 * b + c": each ring of ten parties, and of two the one. */
    private static void ringsOfTenParties() {
        StringBuilder parties = new StringBuilder("money m rate 1 cut 9;");
        for (int p = 0; p < 10; p++) {
            parties.append("party ").append(name(p)).append(';');
        }
        for (int a = 0; a < 10; a++) {
            for (int b = a + 1; b < 10; b++) {
                for (int c = a + 1; c < 10; c++) {
                    if (b != c) {
                        int number = 100 * a + 10 * b + c;
                        Check.same("ring " + number, Check.deskTold(parties + ring(a, b, c, 1)).ring(0), number);
                        Check.same("ring told from b", Check.deskTold(parties + ring(b, c, a, 1)).ring(0), number);
                    }
                }
            }
        }
        Check.same("the greater least", Check.deskTold(parties + ring(0, 1, 2, 4) + ring(7, 9, 8, 5)).ring(0), 798);
        Check.same("of two as great", Check.deskTold(parties + ring(7, 8, 9, 5) + ring(1, 6, 2, 5)).ring(0), 162);
        Check.same("of two by b", Check.deskTold(parties + ring(0, 9, 3, 5) + ring(0, 2, 8, 5)).ring(0), 28);
        // the two share what 0 owes 2: 21 then
        Check.same("of two by c", Check.deskTold(parties + ring(0, 2, 8, 5) + ring(0, 2, 4, 5)).ring(0), 24);
    }

    // ---- the paper

    private static void report(NettingDesk desk, int day, String due) {
        Check.same("report " + day, desk.report(day), due.length());
        Check.same("the paper of " + day, Check.paper(desk), due);
    }

    /** "w if it waits, s if it is settled, f if it has failed, c if it is cancelled"; amounts of each length. */
    private static void lettersAndAmounts() {
        NettingDesk desk = Desks.mixed();
        report(desk, 0, "a b 100 m s\nb c 300 n f\na b 11 n c\n");
        report(desk, 1, "a c 70 m s\nc a 30 m s\nc a 900 n w\na c 20 m w\n");
        report(desk, 2, "c a 7 n w\na c 900 n w\nb a 50 m w\nc b 10 m w\n");
        report(desk, 3, "");
        NettingDesk amounts = Check.deskTold("party a; party b; money m rate 1 cut 1; pay b to a 1 m on 30;");
        for (int amount : new int[] {1, 9, 10, 11, 99, 100, 101, 999, 1000, 9999, 10000, 10203, 90909, 99999, 100000}) {
            amounts.amend(0, amount);
            report(amounts, 30, "b a " + amount + " m w\n");
        }
        report(new NettingDesk(), 0, "");
        report(new NettingDesk(), Integer.MAX_VALUE, "");
    }

    /** "in the place of what was there": a shorter one, none, and a longer one again. */
    private static void paperIsReplaced() {
        NettingDesk desk = Desks.mixed();
        int[] days = {2, 0, 3, 1, 9, 2};
        int[] lengths = {44, 35, 0, 45, 0, 44};
        for (int k = 0; k < days.length; k++) {
            Check.same("report of the day " + days[k], desk.report(days[k]), lengths[k]);
            Check.same("bytes then", desk.count(11), lengths[k]);
            int behind = lengths[k];
            Check.index("byteAt behind it", () -> desk.byteAt(behind));
            if (lengths[k] > 0) {
                Check.same("its last byte", desk.byteAt(lengths[k] - 1), 10);
            }
        }
        Check.same("put off to the day 3", desk.putOff(2, 1), 3);
        report(desk, 3, "c a 7 n w\n");
    }

    // ---- kept, digest

    /** "1 if there are none of both": waiting and cancelled ones do not count. */
    private static void keptParts() {
        Check.same("of an empty desk", new NettingDesk().kept(), 1.0);
        NettingDesk desk = Check.deskTold("party a line 100; party b; money m rate 100 cut 1; pay a to b 100 m on 1;"
            + "pay a to b 1 m on 9; cancel 1; pay a to b 1 m on 9;");
        Check.same("of waiting and cancelled ones", desk.kept(), 1.0);
        desk.pass(25);
        Check.same("of one settled", desk.kept(), 1.0);
        int failed = 0;
        for (int k = 0; k < 8; k++) {
            Check.told(desk, "pay a to b 1 m on 1;".repeat(7));
            desk.pass(1);
            failed += 7;
            Check.same("of one settled and failed " + failed, desk.kept(), 1.0 / (1 + failed));
        }
        NettingDesk none = Check.deskTold("party a; party b; money m rate 100 cut 1;" + "pay a to b 1 m on 0;".repeat(40));
        none.pass(1);
        Check.same("of forty failed", none.kept(), 0.0);
        NettingDesk mixed = Desks.mixed();
        Check.same("of three and one", mixed.kept(), 0.75);
    }

    private static long more(long d, long x) {
        return d * 31 + x;
    }

    /** "wraps around as a 64-bit integer": of a full desk, each part asked of a desk of its own. */
    private static void digestWrapsAround() {
        for (Desks.Made made : new Desks.Made[] {Desks::full, Desks::mixed}) {
            long d = 647;
            NettingDesk first = made.make();
            for (int what = 0; what <= 11; what++) {
                d = more(d, first.count(what));
            }
            for (int p = 0; p < first.count(0); p++) {
                for (int what = 0; what <= 6; what++) {
                    d = more(d, first.party(p, what));
                }
                for (int m = 0; m < first.count(1); m++) {
                    d = more(more(d, first.has(p, m, false)), first.has(p, m, true));
                }
            }
            NettingDesk second = made.make();
            for (int m = 0; m < second.count(1); m++) {
                for (int what = 0; what <= 3; what++) {
                    d = more(d, second.money(m, what));
                }
            }
            NettingDesk third = made.make();
            int payments = third.count(2);
            for (int k = 0; k < payments * 9; k++) {
                // so many calls are too many for one desk
                third = k % 200 == 199 ? made.make() : third;
                d = more(d, third.payment(k / 9, k % 9));
            }
            NettingDesk last = made.make();
            for (int k = 0; k < last.count(11); k++) {
                d = more(d, last.byteAt(k));
            }
            Check.same("digest", last.digest(), d);
        }
    }
}
