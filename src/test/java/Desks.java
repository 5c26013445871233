/** Desks for the tests of edges, and all that can be asked of a desk, as one text. */
final class Desks {
    interface Made {
        NettingDesk make();
    }

    interface Asked {
        void make(NettingDesk desk);
    }

    private Desks() {
    }

    /**
     * On the day 1 at the hour 1: payments in each state, one held, two that are partners, a party
     * in default, collateral, a balance below 0, an error, and bytes on the tape and on the paper.
     */
    static NettingDesk mixed() {
        NettingDesk desk = Check.deskTold("party a line 500; party b; party c line 20;"
            + "money m rate 150 cut 5; money n rate 40 cut 20; pay a to b 100 m on 0; pay b to c 300 n on 0;"
            + "pay c to a 7 n on 2; pay a to c 900 n on 2 for 2; pay b to a 50 m on 2; hold 4;"
            + "pay a to b 11 n on 0; cancel 5; pay a to c 70 m on 1; pay c to a 30 m on 1;");
        desk.deposit(0, 0, 30);
        desk.deposit(2, 0, 160);
        desk.pledge(2, 0, 140);
        desk.pass(25);
        Check.told(desk, "pay c to a 900 n on 1; pay a to c 20 m on 1; pay c to b 10 m on 2;");
        desk.report(2);
        Check.refusedText(desk, "party d; hold 99;", 5, 14);
        Check.write(desk, "pay a to c 5 n on 1; hold 2;");
        return desk;
    }

    /** Ten parties, five moneys and sixty payments, the first thirty due today, the others tomorrow. */
    static NettingDesk full() {
        StringBuilder text = new StringBuilder();
        for (int p = 0; p < 10; p++) {
            text.append("party partner").append(p).append(" line ").append(100000 * p + 100000).append(';');
        }
        for (int m = 0; m < 5; m++) {
            text.append("money dollars").append(m).append(" rate ").append(200 * m + 200);
            text.append(" cut ").append(23 - m).append(';');
        }
        NettingDesk desk = Check.deskTold(text.toString());
        Check.told(desk, thirtyPayments(0));
        Check.told(desk, thirtyPayments(1));
        return desk;
    }

    private static String thirtyPayments(int day) {
        StringBuilder text = new StringBuilder();
        for (int k = 0; k < 30; k++) {
            int from = (9 + k) % 10;
            text.append("pay partner").append(from).append(" to partner").append((from + 1 + k % 3) % 10);
            text.append(' ').append(100000 - k).append(" dollars").append(4 - k % 5).append(" on ").append(day);
            text.append(';');
        }
        return text.toString();
    }

    /** All that a desk answers, at once and later on; behind it the desk has another state. */
    static String told(NettingDesk desk) {
        return "errorAt " + desk.errorAt() + "; " + toldButErrorAt(desk);
    }

    /** The same but for errorAt, which a text without an error changes. */
    static String toldButErrorAt(NettingDesk desk) {
        StringBuilder all = new StringBuilder();
        all.append("digest ").append(desk.digest()).append(", kept ").append(desk.kept());
        all.append("; paper ").append(Check.paper(desk)).append("; would be");
        tellWouldBe(desk, all);
        all.append("; the tape's error ").append(desk.teach()).append(" at ").append(desk.errorAt());
        for (int day = 0; day <= 3; day++) {
            all.append("; report ").append(desk.report(day)).append(' ').append(desk.digest());
        }
        all.append("; pass ").append(desk.pass(1)).append(' ').append(desk.digest());
        all.append("; pass ").append(desk.pass(70)).append(' ').append(desk.digest());
        return all.toString();
    }

    private static void tellWouldBe(NettingDesk desk, StringBuilder all) {
        int parties = desk.count(0);
        int moneys = desk.count(1);
        int payments = desk.count(2);
        for (int what = 0; what <= 4; what++) {
            all.append(" run ").append(desk.run(what));
        }
        // of many only some, the last one among them: a desk is not asked more than 512 times
        for (int n = payments - 1; n >= 0; n -= payments > 20 ? 5 : 1) {
            all.append(" settles ").append(desk.settles(n)).append(" when ").append(desk.when(n));
        }
        for (int m = 0; m < moneys; m++) {
            all.append(" ring ").append(desk.ring(m)).append(" advise ").append(desk.advise(m, 1000));
            for (int p = parties - 1; p >= 0; p -= parties > 5 ? 2 : 1) {
                all.append(" frees ").append(desk.frees(p, m));
                all.append(" owes ").append(desk.owes(p, (p + 1) % parties, m));
            }
        }
    }
}
