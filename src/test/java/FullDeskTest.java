/** A desk with nothing, and one with as much as it can hold: ten parties, five moneys, sixty payments. */
public final class FullDeskTest {
    public static void main(String[] args) {
        emptyDesk();
        deskWithoutPayments();
        partiesAndMoneysOfAFullDesk();
        paymentsOfAFullDesk();
        allSettle();
        allAreLeftOut();
        allInOneRing();
        eachOfTenOnce();
        asManyCallsAsThereAre();
        Check.end("FullDeskTest");
    }

    /** "without parties, moneys and payments, on the day 0, at the hour 0"; tape and paper are empty. */
    private static void emptyDesk() {
        NettingDesk desk = new NettingDesk();
        for (int what = 0; what <= 11; what++) {
            Check.same("count " + what, desk.count(what), 0);
        }
        Check.same("errorAt", desk.errorAt(), -1);
        for (int what = 0; what <= 4; what++) {
            Check.same("run " + what, desk.run(what), 0);
        }
        Check.same("report", desk.report(0), 0);
        Check.same("kept", desk.kept(), 1.0);
        Check.same("teach of an empty tape", desk.teach(), 0);
        Check.same("errorAt then", desk.errorAt(), -1);
        Check.same("trim of an empty tape", desk.trim(0), 0);
        Check.same("pass", desk.pass(100), 0);
        Check.same("count of payments then", desk.count(2), 0);
        // another object is a desk of its own
        NettingDesk told = Check.deskTold("party a;");
        Check.same("parties of the one", told.count(0), 1);
        Check.same("parties of the other", desk.count(0), 0);
        Check.same("parties of a new one", new NettingDesk().count(0), 0);
    }

    /** Parties without moneys, and moneys without parties. */
    private static void deskWithoutPayments() {
        NettingDesk parties = Check.deskTold("party a line 5; party b;");
        int[] due = {5, 5, 0, 5, 0, 0, 0};
        for (int what = 0; what < due.length; what++) {
            Check.same("party " + what, parties.party(0, what), due[what]);
        }
        Check.index("has", () -> parties.has(0, 0, false));
        Check.index("owes", () -> parties.owes(0, 1, 0));
        Check.index("frees", () -> parties.frees(0, 0));
        Check.index("ring", () -> parties.ring(0));
        Check.index("advise", () -> parties.advise(0, 1));
        Check.same("pass", parties.pass(50), 0);
        Check.same("parties in default", parties.count(9), 0);
        NettingDesk moneys = Check.deskTold("money m rate 7 cut 9;");
        Check.same("rate", moneys.money(0, 0), 7);
        Check.same("amounts that wait", moneys.money(0, 3), 0);
        Check.same("setRate", moneys.setRate(0, 8), 7);
        Check.index("deposit", () -> moneys.deposit(0, 0, 1));
        Check.same("ring", moneys.ring(0), -1);
        Check.same("advise", moneys.advise(0, 1), -1);
        NettingDesk both = Check.deskTold("party a; party b; money m rate 7 cut 9;");
        Check.same("owes", both.owes(0, 1, 0), 0);
        Check.same("frees", both.frees(0, 0), 0);
        Check.index("payment", () -> both.payment(0, 0));
        Check.index("settles", () -> both.settles(0));
        Check.index("when", () -> both.when(0));
        Check.index("amend", () -> both.amend(0, 1));
        Check.index("putOff", () -> both.putOff(0, 1));
    }

    private static void partiesAndMoneysOfAFullDesk() {
        NettingDesk desk = Desks.full();
        Check.same("parties", desk.count(0), 10);
        Check.same("moneys", desk.count(1), 5);
        Check.same("payments", desk.count(2), 60);
        for (int p = 0; p < 10; p++) {
            Check.same("line of " + p, desk.party(p, 0), 100000 * p + 100000);
            Check.same("payments of " + p, desk.party(p, 5), 6);
            for (int m = p % 2; m < 5; m += 2) {
                Check.same("deposit", desk.deposit(p, m, 100 * p + m + 50), 100 * p + m + 50);
            }
        }
        for (int p = 0; p < 10; p++) {
            for (int m = 0; m < 5; m++) {
                Check.same("balance of " + p + " in " + m, desk.has(p, m, false),
                    m % 2 == p % 2 ? 100 * p + m + 50 : 0);
            }
        }
        for (int m = 0; m < 5; m++) {
            Check.same("rate", desk.setRate(m, m + 1), 200 * m + 200);
            Check.same("rate then", desk.money(m, 0), m + 1);
            Check.same("cut", desk.money(m, 1), 23 - m);
        }
        Check.same("pledge of the last one", desk.pledge(9, 3, 953), 1000000 + 953 * 4 / 100 * 9 / 10);
        Check.same("its collateral", desk.has(9, 3, true), 953);
        Check.same("that of the one ahead", desk.has(8, 3, true), 0);
        Check.same("that of the money ahead", desk.has(9, 2, true), 0);
    }

    private static void paymentsOfAFullDesk() {
        NettingDesk desk = Desks.full();
        for (int n = 0; n < 60; n++) {
            int k = n % 30;
            int from = (9 + k) % 10;
            Check.same("who pays " + n, desk.payment(n, 0), from);
            Check.same("who gets " + n, desk.payment(n, 1), (from + 1 + k % 3) % 10);
            Check.same("amount of " + n, desk.payment(n, 2), 100000 - k);
            Check.same("money of " + n, desk.payment(n, 3), 4 - k % 5);
            Check.same("day of " + n, desk.payment(n, 4), n / 30);
        }
        NettingDesk last = Desks.full();
        Check.same("amend of the last one", last.amend(59, 7), 99971);
        Check.same("putOff of the last one", last.putOff(59, 30), 31);
        Check.same("report of it", last.report(31), "partner8 partner1 7 dollars0 w\n".length());
        Check.same("the one ahead", last.payment(58, 2), 99972);
    }

    /** Sixty that take part, and all of them settle. */
    private static void allSettle() {
        NettingDesk desk = Desks.full();
        for (int n = 0; n < 30; n++) {
            desk.putOff(n, 1);
        }
        desk.pass(24);
        // each party pays six times, in one money
        for (int n = 0; n < 60; n++) {
            desk.deposit(desk.payment(n, 0), desk.payment(n, 3), 100000);
        }
        Check.same("take part", desk.run(0), 60);
        Check.same("would settle", desk.run(1), 60);
        Check.same("are short", desk.run(2), 0);
        Check.same("the last one", desk.settles(59) ? 1 : 0, 1);
        Check.same("when", desk.when(59), 1);
        Check.same("frees", desk.frees(9, 4), 0);
        Check.same("advise", desk.advise(4, 100000), -1);
        Check.same("settle", desk.pass(1), 60);
        Check.same("are settled", desk.count(4), 60);
        Check.same("their hour", desk.payment(59, 8), 24);
        Check.same("kept", desk.kept(), 1.0);
    }

    /** Sixty that take part, and all of them are left out, one by one. */
    private static void allAreLeftOut() {
        NettingDesk desk = Check.deskTold("party a; party b; money m rate 1000 cut 23;" + "pay a to b 100000 m on 0;".repeat(38));
        Check.told(desk, "pay a to b 100000 m on 0;".repeat(22));
        Check.same("take part", desk.run(0), 60);
        Check.same("would settle", desk.run(1), 0);
        Check.same("worth", desk.run(3), 60000000);
        Check.same("gains", desk.run(4), 60000000);
        for (int n = 0; n < 60; n++) {
            Check.same("settles " + n, desk.settles(n) ? 1 : 0, 0);
        }
        Check.same("frees", desk.frees(0, 0), -1);
        Check.same("advise of 99999", desk.advise(0, 99999), -1);
        Check.same("advise of 100000", desk.advise(0, 100000), 0);
        Check.same("when", desk.when(0), -1);
        Check.same("settle", desk.pass(22), 0);
        desk.deposit(0, 0, 100000);
        Check.same("settles with a deposit", desk.pass(1), 1);
        Check.same("the first one", desk.payment(0, 6), 1);
        Check.same("the others fail", desk.count(5), 59);
        Check.same("kept", desk.kept(), 1.0 / 60);
    }

    /** Sixty round ten parties that have nothing: with one held, all are left out. */
    private static void allInOneRing() {
        StringBuilder opening = new StringBuilder("money m rate 1000 cut 23;");
        StringBuilder round = new StringBuilder();
        for (int p = 0; p < 10; p++) {
            opening.append("party p").append(p).append(';');
            round.append("pay p").append(p).append(" to p").append((p + 1) % 10).append(" 100000 m on 0;");
        }
        NettingDesk desk = Check.deskTold(opening.toString());
        for (int k = 0; k < 2; k++) {
            Check.told(desk, round.toString().repeat(3));
        }
        Check.same("would settle", desk.run(1), 60);
        Check.same("are short", desk.run(2), 0);
        Check.told(desk, "hold 59;");
        Check.same("are short with one held", desk.run(2), 1);
        Check.same("settle with one held", desk.run(1), 50);
        Check.same("advise", desk.advise(0, 100000), 0);
        Check.told(desk, "hold 59;");
        Check.same("settle", desk.pass(1), 60);
        for (int p = 0; p < 10; p++) {
            Check.same("balance of " + p, desk.has(p, 0, false), 0);
        }
    }

    /** One party pays the nine others, or they pay it: each of the ten counts, and once. */
    private static void eachOfTenOnce() {
        for (int one = 0; one < 10; one++) {
            StringBuilder opening = new StringBuilder("money m rate 100 cut 23;");
            StringBuilder toOthers = new StringBuilder();
            StringBuilder fromOthers = new StringBuilder();
            for (int p = 0; p < 10; p++) {
                opening.append("party p").append(p).append(" line 1000;");
                if (p != one) {
                    toOthers.append("pay p").append(one).append(" to p").append(p).append(" 100 m on 0;");
                    fromOthers.append("pay p").append(p).append(" to p").append(one).append(" 100 m on 0;");
                }
            }
            NettingDesk debtor = Check.deskTold(opening.toString() + toOthers);
            NettingDesk debtors = Check.deskTold(opening.toString() + fromOthers);
            Check.same("gains of nine", debtor.run(4), 900);
            Check.same("gains of one", debtors.run(4), 900);
            Check.same("settle", debtor.pass(1) + debtors.pass(1), 18);
            debtor.setRate(0, 1000);
            debtors.setRate(0, 1000);
            debtor.pass(23);
            debtors.pass(23);
            Check.same("one in default", debtor.count(9), 1);
            Check.same("nine in default", debtors.count(9), 9);
            for (int p = 0; p < 10; p++) {
                Check.same("balance of " + p, debtor.has(p, 0, false), p == one ? -909 : 100);
                Check.same("balance of " + p, debtors.has(p, 0, false), p == one ? 900 : -101);
                Check.same("default of " + p, debtor.party(p, 4), p == one ? 1 : 0);
                Check.same("default of " + p, debtors.party(p, 4), p == one ? 0 : 1);
            }
        }
    }

    /** "at most 512 calls": the dearest ones, up to the last one. */
    private static void asManyCallsAsThereAre() {
        StringBuilder opening = new StringBuilder();
        for (int p = 0; p < 10; p++) {
            opening.append("party p").append(p).append(';');
        }
        for (int m = 0; m < 5; m++) {
            opening.append("money m").append(m).append(" rate 1000 cut 23;");
        }
        StringBuilder[] payments = {new StringBuilder(opening), new StringBuilder()};
        for (int k = 0; k < 60; k++) {
            payments[k / 30].append("pay p").append(k % 9).append(" to p9 100000 m").append(k % 5).append(" on 0;");
        }
        NettingDesk desk = new NettingDesk();
        int calls = 0;
        for (StringBuilder text : payments) {
            Check.write(desk, text.toString());
            Check.same("teach", desk.teach(), 0);
            // count(10), the feeds, trim, and teach
            calls += (text.length() + 19) / 20 + 3;
        }
        while (calls < 511) {
            switch (calls % 4) {
                case 0 -> Check.same("frees", desk.frees(calls % 9, calls % 5), -1);
                case 1 -> Check.same("advise", desk.advise(calls % 5, 100000), calls % 5);
                case 2 -> Check.same("when", desk.when(calls % 60), -1);
                default -> Check.same("run", desk.run(1), 0);
            }
            calls++;
        }
        Check.same("the 512th call", desk.count(3), 60);
    }
}
