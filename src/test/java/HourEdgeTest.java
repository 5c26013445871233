/** The edges that "2. What a party can bear" and "3. A run" name. */
public final class HourEdgeTest {
    private static final String TWO = "party a line 1000; party b line 1000; money m rate 100 cut 23; ";

    public static void main(String[] args) {
        hoursAndDays();
        howManySettle();
        limits();
        exposures();
        exposuresAreAdded();
        cuts();
        whoTakesPart();
        partnersTakePart();
        asMuchAsTheLimit();
        asMuchAsNow();
        theGreatestIsLeftOut();
        theSmallestNumberGoesFirst();
        whenItSettled();
        interestIsCut();
        interestUpToItsLeast();
        interestOfEach();
        defaultAtARoomBelowNothing();
        defaultEndsWithItsDay();
        defaultAheadOfTheFees();
        fees();
        feesWhateverTheLimit();
        failsAtItsCut();
        failsWhenItWasDueEarlier();
        failsWithItsPartner();
        Check.end("HourEdgeTest");
    }

    // ---- time

    /** "hours, 0 to 23", "Behind the hour 23 it is 0 then, and the day is 1 greater". */
    private static void hoursAndDays() {
        for (int hours = 1; hours <= 100; hours++) {
            NettingDesk desk = new NettingDesk();
            Check.same("pass " + hours, desk.pass(hours), 0);
            Check.same("the day behind " + hours, desk.count(7), hours / 24);
            Check.same("the hour behind " + hours, desk.count(8), hours % 24);
            desk.pass(100);
            Check.same("the day behind 100 more", desk.count(7), (hours + 100) / 24);
            Check.same("the hour behind 100 more", desk.count(8), (hours + 100) % 24);
        }
        NettingDesk desk = new NettingDesk();
        for (int k = 0; k < 500; k++) {
            desk.pass(100);
        }
        Check.same("the day behind 50000 hours", desk.count(7), 50000 / 24);
        Check.same("the hour behind 50000 hours", desk.count(8), 50000 % 24);
    }

    /** "how many payments settle in them": in all of the hours together, and in none of the others. */
    private static void howManySettle() {
        String text = TWO + "pay a to b 1 m on 0; pay a to b 1 m on 1; pay b to a 1 m on 1; pay a to b 1 m on 2;"
            + "pay a to b 5000 m on 2; pay a to b 1 m on 3; pay a to b 1 m on 4;";
        int[] hours = {1, 24, 25, 48, 49, 72, 73, 96, 97, 100};
        int[] due = {1, 1, 3, 3, 4, 4, 5, 5, 6, 6};
        for (int k = 0; k < hours.length; k++) {
            NettingDesk desk = Check.deskTold(text);
            Check.same("pass " + hours[k], desk.pass(hours[k]), due[k]);
            Check.same("settled behind " + hours[k], desk.count(4), due[k]);
            Check.same("pass 1 more", desk.pass(1), hours[k] % 24 == 0 ? due[k + 1] - due[k] : 0);
        }
    }

    // ---- what a party can bear

    /** "amount * rate / 100", "worth * 9 / 10", each cut. */
    private static void limits() {
        NettingDesk desk = Check.deskTold("party a line 7; money m rate 100 cut 1; money n rate 100 cut 1;");
        desk.deposit(0, 0, 100);
        desk.deposit(0, 1, 100);
        for (int amount = 1; amount <= 60; amount++) {
            desk.pledge(0, 0, 1);
            int rate = 1 + amount * 37 % 1000;
            desk.setRate(0, rate);
            Check.same("limit by " + amount + " at " + rate, desk.party(0, 1), 7 + amount * rate / 100 * 9 / 10);
        }
        // of each money by itself: 9 tenths of 1 and of 1 are 0, those of 2 would be 1
        NettingDesk two = Check.deskTold("party a; money m rate 100 cut 1; money n rate 100 cut 1;");
        two.deposit(0, 0, 11);
        two.deposit(0, 1, 11);
        Check.same("pledge of 1", two.pledge(0, 0, 1), 0);
        Check.same("pledge of 1 of the other one", two.pledge(0, 1, 1), 0);
        Check.same("pledge of 1 more", two.pledge(0, 0, 1), 1);
        Check.same("pledge of 9 more", two.pledge(0, 0, 9), 9);
        Check.same("pledge of 10 more of the other one", two.pledge(0, 1, 10), 18);
    }

    /** "each rounded up ((amount * rate and 99) / 100)"; a balance of 0 or more adds nothing. */
    private static void exposures() {
        for (int debt : new int[] {1, 2, 99, 100, 101, 12345, 100000}) {
            NettingDesk desk = Check.deskTold("party a line 1000000; party b; money m rate 1 cut 9; pay a to b " + debt
                + " m on 0;");
            desk.pass(1);
            for (int rate : new int[] {1, 2, 50, 99, 100, 101, 199, 200, 999, 1000}) {
                desk.setRate(0, rate);
                int due = debt * rate % 100 == 0 ? debt * rate / 100 : debt * rate / 100 + 1;
                Check.same("exposure of " + debt + " at " + rate, desk.party(0, 2), due);
                Check.same("room", desk.party(0, 3), 1000000 - due);
                Check.same("exposure of who has it", desk.party(1, 2), 0);
            }
            desk.deposit(0, 0, debt);
            Check.same("exposure of a balance of 0", desk.party(0, 2), 0);
            desk.deposit(0, 0, 1);
            Check.same("exposure of a balance of 1", desk.party(0, 2), 0);
        }
    }

    /** Each of them rounded up, then added; what is more than 0 does not make it less. */
    private static void exposuresAreAdded() {
        NettingDesk desk = Check.deskTold("party a line 9; party b; money m rate 1 cut 9; money n rate 1 cut 9; money o rate 1000 cut 9;"
            + "pay a to b 1 m on 0; pay a to b 1 n on 0; pay b to a 50 o on 0;");
        desk.deposit(1, 2, 50);
        Check.same("all settle", desk.pass(1), 3);
        Check.same("1 and 1", desk.party(0, 2), 2);
        Check.same("room", desk.party(0, 3), 7);
    }

    // ---- who takes part

    /** "of a money whose cut is later than the hour that is now": its last hour, and the one behind it. */
    private static void cuts() {
        for (int cut = 1; cut <= 23; cut++) {
            NettingDesk desk = Check.deskTold("party a line 99; party b; money m rate 100 cut " + cut + ";"
                + "pay a to b 7 m on 0; hold 0; pay a to b 8 m on 0; hold 1;");
            if (cut > 1) {
                desk.pass(cut - 1);
            }
            Check.same("open in the last hour ahead of " + cut, desk.money(0, 2), 1);
            Check.same("held", desk.run(0), 0);
            Check.told(desk, "hold 0;");
            Check.same("takes part ahead of " + cut, desk.run(0), 1);
            Check.same("settles ahead of " + cut, desk.pass(1), 1);
            Check.same("its hour", desk.payment(0, 8), cut - 1);
            Check.same("the other one fails at " + cut, desk.payment(1, 6), 2);
            Check.same("closed at " + cut, desk.money(0, 2), 0);
            Check.told(desk, "pay a to b 9 m on 0; pay a to b 9 m on 1;");
            Check.same("does not take part at " + cut, desk.run(0), 0);
            Check.same("does not settle at " + cut, desk.settles(2) ? 1 : 0, 0);
            Check.same("nor later", desk.when(2), -1);
            Check.same("tomorrow's at the hour 0", desk.when(3), 25 - cut);
            Check.same("pass", desk.pass(1), 0);
            Check.same("it fails behind this hour", desk.payment(2, 6), 2);
            Check.same("tomorrow's waits", desk.payment(3, 6), 0);
        }
    }

    /** "wait, are due today, are not held, .. between parties that are not in default". */
    private static void whoTakesPart() {
        NettingDesk desk = Check.deskTold(TWO + "pay a to b 1 m on 1; pay a to b 2 m on 2; pay a to b 3 m on 3;");
        for (int day = 0; day <= 4; day++) {
            for (int n = 0; n < 3; n++) {
                Check.same(n + " on the day " + day, desk.settles(n) ? 1 : 0, day == n + 1 ? 1 : 0);
            }
            Check.same("run on the day " + day, desk.run(0), day == 0 || day == 4 ? 0 : 1);
            desk.pass(24);
        }
        // c comes into default: neither its own nor those to it
        NettingDesk bad = Check.deskTold(TWO + "party c line 50; pay c to a 50 m on 0; pay c to a 1 m on 1;"
            + "pay a to c 2 m on 1; pay a to b 3 m on 1; pay b to a 3 m on 1 for 1; pay b to a 4 m on 1 for 2;");
        bad.pass(23);
        bad.setRate(0, 200);
        Check.same("not in default yet", bad.count(9), 0);
        bad.pass(1);
        Check.same("in default", bad.party(2, 4), 1);
        Check.same("run with one in default", bad.run(0), 1);
        Check.same("between the others", bad.settles(3) ? 1 : 0, 1);
        for (int n : new int[] {1, 2, 4, 5}) {
            Check.same("with one in default " + n, bad.settles(n) ? 1 : 0, 0);
        }
    }

    /** "of those with a partner only if it takes part, too": whatever it is that keeps the partner out. */
    private static void partnersTakePart() {
        String[] partners = {"pay b to a 5 m on 0 for 0;", "pay b to a 5 m on 0 for 0; hold 1;",
            "pay b to a 5 m on 1 for 0;", "pay b to a 5 n on 0 for 0;", "pay b to a 5 m on 0 for 0; cancel 1;",
            "pay b to a 5 m on 0 for 0; hold 0;"};
        int[] takePart = {2, 0, 0, 0, 1, 0};
        for (int k = 0; k < partners.length; k++) {
            NettingDesk desk = Check.deskTold(TWO + "money n rate 100 cut 1;");
            desk.pass(1);
            Check.told(desk, "pay a to b 5 m on 0;" + partners[k]);
            Check.same("run with " + partners[k], desk.run(0), takePart[k]);
            Check.same("settling with " + partners[k], desk.run(1), takePart[k]);
            Check.same("settles with " + partners[k], desk.settles(0) ? 1 : 0, takePart[k] > 0 ? 1 : 0);
        }
    }

    // ---- who is short

    /** "more than its limit": as much as the limit is borne, by a line, collateral and a balance. */
    private static void asMuchAsTheLimit() {
        for (int more = -1; more <= 1; more++) {
            NettingDesk line = Check.deskTold("party a line 30; party b; money m rate 150 cut 9; pay a to b "
                + (20 + more) + " m on 0;");
            Check.same("line 30 for 20 and " + more, line.pass(1), more <= 0 ? 1 : 0);
            NettingDesk collateral = Check.deskTold("party a; party b; money m rate 150 cut 9; money n rate 100 cut 9;"
                + "pay a to b " + (6 + more) + " m on 0;");
            // 9 by 10 of the other money, and 6 at 1.5 are 9
            collateral.deposit(0, 1, 10);
            collateral.pledge(0, 1, 10);
            Check.same("collateral for 6 and " + more, collateral.pass(1), more <= 0 ? 1 : 0);
            NettingDesk balance = Check.deskTold("party a; party b; money m rate 1 cut 9; pay a to b "
                + (500 + more) + " m on 0;");
            balance.deposit(0, 0, 500);
            Check.same("balance of 500 and " + more, balance.pass(1), more <= 0 ? 1 : 0);
        }
        // what comes from others counts: nothing is needed but what is left of all
        for (int more = -1; more <= 1; more++) {
            NettingDesk desk = Check.deskTold("party a; party b line 5; money m rate 100 cut 9; pay a to b 70 m on 0;"
                + "pay b to a " + (75 + more) + " m on 0;");
            Check.same("netted to 5 and " + more, desk.pass(1), more <= 0 ? 2 : 0);
        }
    }

    /** "and more than its exposure now": as much as now is borne even over the limit. */
    private static void asMuchAsNow() {
        for (int more = -1; more <= 1; more++) {
            NettingDesk desk = Check.deskTold(TWO + "money n rate 100 cut 23; pay a to b 1000 m on 0;");
            desk.pass(1);
            desk.setRate(0, 150);
            Check.same("room", desk.party(0, 3), -500);
            // 20 m less are 30 less, and 30 n more are 30 more
            Check.told(desk, "pay b to a 20 m on 0; pay a to b " + (30 + more) + " n on 0;");
            Check.same("short with " + more, desk.run(2), more <= 0 ? 0 : 1);
            Check.same("settles with " + more, desk.pass(1), more <= 0 ? 2 : 1);
        }
    }

    // ---- what is left out

    /** "the one with the greatest amount * rate, of several the one with the greatest number". */
    private static void theGreatestIsLeftOut() {
        // amount, rate in hundredths of the first one and of the second one, and which is left out
        int[][] rows = {{1000, 2, 100, 100, 1}, {100, 100, 1000, 2, 0}, {100, 100, 100, 100, 1}, {10, 30, 30, 10, 1},
            {30, 10, 10, 30, 1}, {3, 101, 304, 1, 1}, {3, 101, 303, 1, 1}, {3, 101, 302, 1, 0}, {9, 1, 1, 9, 1}};
        for (int[] row : rows) {
            String text = "party a; party b; money m rate " + row[1] + " cut 9; money n rate " + row[3] + " cut 9;"
                + "pay a to b " + row[0] + " m on 0; pay a to b " + row[2] + " n on 0;";
            NettingDesk desk = Check.deskTold(text);
            // enough for each one alone, but not for both
            int one = (row[0] * row[1] + 99) / 100;
            int other = (row[2] * row[3] + 99) / 100;
            desk.deposit(0, row[4] == 0 ? 1 : 0, row[4] == 0 ? row[2] : row[0]);
            Check.same("short with " + one + " and " + other, desk.run(2), 1);
            Check.same("settling with " + one + " and " + other, desk.run(1), 1);
            Check.same("the one that is left out of " + text, desk.settles(row[4]) ? 1 : 0, 0);
        }
        NettingDesk many = Check.deskTold("party a line 29; party b; money m rate 100 cut 9;"
            + "pay a to b 10 m on 0;".repeat(6));
        Check.same("two of six", many.pass(1), 2);
        for (int n = 0; n < 6; n++) {
            Check.same("of six " + n, many.payment(n, 6), n < 2 ? 1 : 0);
        }
    }

    /** "the one with the smallest number of these has a payment left out". */
    private static void theSmallestNumberGoesFirst() {
        // what a leaves out was for b, and what b leaves out was for a: who goes first decides
        NettingDesk desk = Check.deskTold("party a line 10; party b line 10; party c line 500; money m rate 100 cut 9;"
            + "pay a to b 30 m on 0; pay a to c 11 m on 0; pay b to a 25 m on 0; pay b to c 16 m on 0;");
        // a: -41 + 25 = -16, b: -41 + 30 = -11; a leaves out 30, then is 14 above; b is -41 then, leaves out
        // 25: a is -11 then and leaves out 11; b is -16 and leaves out 16
        Check.same("two are short", desk.run(2), 2);
        Check.same("none is left", desk.run(1), 0);
        NettingDesk one = Check.deskTold("party b line 10; party a line 10; party c line 500; money m rate 100 cut 9;"
            + "pay a to b 30 m on 0; pay a to c 9 m on 0; pay b to a 31 m on 0; pay b to c 10 m on 0;");
        // b: -41 + 30 = -11 leaves out 31; a: -39 is short then and leaves out 30, b has 10 to pay, a has 9
        Check.same("one is short", one.run(2), 1);
        Check.same("two are left", one.run(1), 2);
        Check.same("that of b", one.settles(3) ? 1 : 0, 1);
        Check.same("that of a", one.settles(1) ? 1 : 0, 1);
    }

    /** "24 * the day and the hour in whose run it settled": the hour ahead of the step to the next one. */
    private static void whenItSettled() {
        int[] hours = {0, 1, 22, 24, 46, 48, 70, 96};
        for (int hour : hours) {
            NettingDesk desk = Check.deskTold(TWO + "pay a to b 1 m on " + hour / 24 + "; hold 0;");
            if (hour > 0) {
                desk.pass(hour);
            }
            Check.told(desk, "hold 0;");
            Check.same("none yet", desk.payment(0, 8), -1);
            Check.same("when", desk.when(0), 1);
            Check.same("pass", desk.pass(1), 1);
            Check.same("settled at", desk.payment(0, 8), hour);
            Check.same("when then", desk.when(0), 0);
            desk.pass(100);
            Check.same("settled at, still", desk.payment(0, 8), hour);
        }
    }

    // ---- interest

    private static int balanceADayLater(NettingDesk desk) {
        desk.pass(24);
        return desk.has(0, 0, false);
    }

    /** "each balance that is less than 0 becomes less by a hundredth of it (cut)". */
    private static void interestIsCut() {
        int[] debts = {1, 99, 100, 101, 199, 200, 201, 9999, 10000, 100000};
        int[] then = {1, 99, 101, 102, 200, 202, 203, 10098, 10100, 101000};
        for (int k = 0; k < debts.length; k++) {
            NettingDesk desk = Check.deskTold("party a line 1000000; party b; money m rate 100 cut 23; pay a to b "
                + debts[k] + " m on 0;");
            desk.pass(23);
            Check.same("ahead of the day's end", desk.has(0, 0, false), -debts[k]);
            desk.pass(1);
            Check.same("interest of " + debts[k], desk.has(0, 0, false), -then[k]);
            Check.same("none of who has it", desk.has(1, 0, false), debts[k]);
            desk.pass(23);
            Check.same("once a day", desk.has(0, 0, false), -then[k]);
        }
        NettingDesk none = Check.deskTold("party a; money m rate 100 cut 23;");
        Check.same("of 0", balanceADayLater(none), 0);
        none.deposit(0, 0, 100000);
        Check.same("of 100000 above 0", balanceADayLater(none), 100000);
        none.pledge(0, 0, 100000);
        Check.same("of a balance of 0", balanceADayLater(none), 0);
        Check.same("of collateral", none.has(0, 0, true), 100000);
    }

    private static NettingDesk withTheLeast() {
        NettingDesk desk = Check.deskTold("party a line 1000000; party b; money m rate 1 cut 23;"
            + "pay a to b 100000 m on 0;".repeat(30));
        Check.told(desk, "pay a to b 100000 m on 0;".repeat(28));
        Check.same("58 settle", desk.pass(24), 58);
        for (int k = 0; k < 14; k++) {
            desk.pass(96);
        }
        Check.same("the least", desk.has(0, 0, false), -10000000);
        return desk;
    }

    /** "but not less than -10000000 by this (one that is less already stays)". */
    private static void interestUpToItsLeast() {
        int[] balances = {-9900000, -9900989, -9900990, -9900991, -9900999, -9901000, -9999999, -10000000};
        int[] then = {-9999000, -9999998, -9999999, -10000000, -10000000, -10000000, -10000000, -10000000};
        for (int k = 0; k < balances.length; k++) {
            NettingDesk desk = withTheLeast();
            if (balances[k] > -10000000) {
                Check.same("deposit", desk.deposit(0, 0, 10000000 + balances[k]), balances[k]);
            }
            Check.same("a day behind " + balances[k], balanceADayLater(desk), then[k]);
        }
        // less already: by the fee of 1 for 100, and by payments that settle
        NettingDesk fee = withTheLeast();
        Check.told(fee, "pay a to b 100 m on " + fee.count(7) + "; hold 58;");
        Check.same("a day later with a fee", balanceADayLater(fee), -10000001);
        Check.same("it stays", balanceADayLater(fee), -10000001);
        fee.deposit(0, 0, 1);
        Check.same("and at the least", balanceADayLater(fee), -10000000);
        NettingDesk paid = withTheLeast();
        Check.told(paid, "pay a to b 100000 m on " + paid.count(7) + "; pay a to b 100000 m on " + paid.count(7) + ";");
        Check.same("a day later with two more", balanceADayLater(paid), -10200000);
        Check.same("it stays, too", balanceADayLater(paid), -10200000);
        // "Nothing wraps around"
        Check.same("its exposure", paid.party(0, 2), 102000);
        paid.setRate(0, 1000);
        Check.same("its exposure at 1000", paid.party(0, 2), 102000000);
        Check.same("its room", paid.party(0, 3), 1000000 - 102000000);
    }

    /** Each balance of each party has its own, whatever the others are. */
    private static void interestOfEach() {
        NettingDesk desk = Check.deskTold("party a line 9000; party b line 9000; party c; money m rate 100 cut 23;"
            + "money n rate 100 cut 23; pay a to c 100 m on 0; pay a to c 200 n on 0; pay b to c 300 m on 0;");
        desk.pass(24);
        int[] due = {-101, -202, -303, 0, 400, 200};
        for (int k = 0; k < due.length; k++) {
            Check.same("balance of " + k / 2 + " in " + k % 2, desk.has(k / 2, k % 2, false), due[k]);
        }
    }

    // ---- default

    /** "then a party is in default, if its room is less than 0": behind the interest. */
    private static void defaultAtARoomBelowNothing() {
        for (int line = 199; line <= 204; line++) {
            NettingDesk desk = Check.deskTold("party a line " + line + "; party b; money m rate 100 cut 23; pay a to b 199 m on 0;");
            desk.pass(23);
            Check.same("room ahead of the interest", desk.party(0, 3), line - 199);
            Check.same("in default ahead of it", desk.party(0, 4), 0);
            desk.pass(1);
            Check.same("room", desk.party(0, 3), line - 200);
            Check.same("in default with the line " + line, desk.party(0, 4), line < 200 ? 1 : 0);
            Check.same("parties in default", desk.count(9), line < 200 ? 1 : 0);
        }
    }

    /** "otherwise it is not": it is looked at when a day ends, and at no other hour. */
    private static void defaultEndsWithItsDay() {
        NettingDesk desk = Check.deskTold("party a line 100; party b; money m rate 100 cut 23; pay a to b 100 m on 0;");
        desk.pass(24);
        Check.same("in default", desk.party(0, 4), 1);
        Check.same("room", desk.party(0, 3), -1);
        desk.deposit(0, 0, 1);
        for (int hour = 0; hour < 24; hour++) {
            Check.same("in default at " + hour, desk.party(0, 4), 1);
            desk.pass(1);
        }
        // 100 and an interest of 1
        Check.same("in default again", desk.party(0, 4), 1);
        desk.deposit(0, 0, 2);
        desk.pass(24);
        Check.same("no more, at the room 1", desk.party(0, 4), 0);
        desk.setRate(0, 1000);
        for (int hour = 0; hour < 24; hour++) {
            Check.same("not in default at " + hour, desk.party(0, 4), 0);
            desk.pass(1);
        }
        Check.same("in default by the rate", desk.party(0, 4), 1);
    }

    /** Step 2 stands ahead of step 3: what fails when a day ends counts for default a day later. */
    private static void defaultAheadOfTheFees() {
        NettingDesk desk = Check.deskTold("party a line 6; party b; money m rate 100 cut 23;");
        desk.pass(23);
        Check.told(desk, "pay a to b 700 m on 0;");
        desk.pass(1);
        Check.same("its fee is paid", desk.has(0, 0, false), -7);
        Check.same("there is no room", desk.party(0, 3), -1);
        Check.same("not in default by it", desk.party(0, 4), 0);
        desk.pass(23);
        Check.same("nor up to the end of the day", desk.party(0, 4), 0);
        desk.pass(1);
        Check.same("but then", desk.party(0, 4), 1);
        // who gets a fee is in default all the same: it comes behind the look
        NettingDesk late = Check.deskTold("party a line 9; party b line 99; money m rate 100 cut 23; pay b to a 99 m on 0;");
        late.pass(1);
        late.setRate(0, 101);
        late.pass(22);
        Check.told(late, "pay a to b 700 m on 0;");
        late.pass(1);
        Check.same("the fee makes room", late.party(1, 3), 99 - 93);
        Check.same("in default still", late.party(1, 4), 1);
        late.pass(24);
        Check.same("no more", late.party(1, 4), 0);
    }

    // ---- what fails

    /** "a hundredth (cut) of its amount is paid as a fee". */
    private static void fees() {
        int[] amounts = {1, 99, 100, 101, 199, 200, 99999, 100000};
        int[] due = {0, 0, 1, 1, 1, 2, 999, 1000};
        for (int k = 0; k < amounts.length; k++) {
            NettingDesk desk = Check.deskTold("party a; party b; money m rate 1000 cut 5; pay a to b " + amounts[k] + " m on 0;");
            desk.pass(4);
            Check.same("ahead of the cut", desk.has(0, 0, false), 0);
            desk.pass(1);
            Check.same("fee of " + amounts[k], desk.has(0, 0, false), -due[k]);
            Check.same("who gets it", desk.has(1, 0, false), due[k]);
            desk.pass(5);
            Check.same("once", desk.has(1, 0, false), due[k]);
        }
    }

    /** "from its balance (which can become less than 0 whatever the limit)", by all that fail at once. */
    private static void feesWhateverTheLimit() {
        NettingDesk desk = Check.deskTold("party a; party b; money m rate 1000 cut 1;" + "pay a to b 100000 m on 0;".repeat(39));
        Check.told(desk, "pay a to b 100000 m on 0;".repeat(21));
        desk.deposit(0, 0, 500);
        Check.same("none settles", desk.pass(1), 0);
        Check.same("sixty fail", desk.count(5), 60);
        Check.same("sixty fees", desk.has(0, 0, false), 500 - 60000);
        Check.same("who gets them", desk.has(1, 0, false), 60000);
        Check.same("not in default by that", desk.count(9), 0);
    }

    /** "due today in a money whose cut is not later than the hour that is now": at it, not ahead of it. */
    private static void failsAtItsCut() {
        for (int cut = 1; cut <= 23; cut++) {
            NettingDesk desk = Check.deskTold("party a; party b; money m rate 100 cut " + cut + "; pay a to b 500 m on 0;"
                + "pay a to b 500 m on 0; hold 1; pay a to b 500 m on 1; pay a to b 500 m on 1;");
            Check.same("put off", desk.putOff(3, 1), 2);
            if (cut > 1) {
                desk.pass(cut - 1);
            }
            Check.same("waits ahead of " + cut, desk.count(3), 4);
            desk.pass(1);
            int[] states = {2, 2, 0, 0};
            for (int n = 0; n < 4; n++) {
                Check.same("state at " + cut + " of " + n, desk.payment(n, 6), states[n]);
            }
            desk.pass(23);
            Check.same("tomorrow's waits up to " + cut, desk.payment(2, 6), 0);
            desk.pass(1);
            Check.same("and fails at it", desk.payment(2, 6), 2);
            desk.pass(23);
            Check.same("that of the next day waits", desk.payment(3, 6), 0);
            desk.pass(1);
            Check.same("and fails then", desk.payment(3, 6), 2);
        }
    }

    /** "was due earlier": one that is told in the hour 23 sees no cut of its day. */
    private static void failsWhenItWasDueEarlier() {
        NettingDesk desk = Check.deskTold("party a line 9999; party b; money m rate 100 cut 23;");
        desk.pass(23);
        Check.told(desk, "pay a to b 700 m on 0; pay a to b 800 m on 1;");
        Check.same("none takes part", desk.run(0), 0);
        Check.same("nor settles", desk.pass(1), 0);
        Check.same("the day", desk.count(7), 1);
        Check.same("it has failed", desk.payment(0, 6), 2);
        Check.same("its fee, behind the interest", desk.has(0, 0, false), -7);
        Check.same("today's waits", desk.payment(1, 6), 0);
        Check.same("and settles", desk.pass(1), 1);
        // put off in its last hour it does not fail
        NettingDesk late = Check.deskTold("party a line 9999; party b; money m rate 100 cut 23; pay a to b 700 m on 0; hold 0;");
        late.pass(22);
        Check.same("put off by 1", late.putOff(0, 1), 1);
        late.pass(2);
        Check.same("it waits", late.payment(0, 6), 0);
    }

    /** "Its partner, if it waits, fails with it, at once (whenever it is due, and whatever the hour)". */
    private static void failsWithItsPartner() {
        String[] partners = {"pay b to a 900 n on 30 for 0;", "pay b to a 900 n on 0 for 0;",
            "pay b to a 900 n on 1 for 0; hold 1;", "pay b to a 900 m on 0 for 0;"};
        for (String partner : partners) {
            NettingDesk desk = Check.deskTold("party a line 9; party b line 9; money m rate 100 cut 5; money n rate 100 cut 23;"
                + "pay a to b 500 m on 0; " + partner);
            desk.pass(4);
            Check.same("both wait", desk.count(3), 2);
            desk.pass(1);
            Check.same("both fail with " + partner, desk.count(5), 2);
            int money = partner.indexOf("900 m") >= 0 ? 0 : 1;
            Check.same("fee of the partner", desk.has(1, money, false), money == 0 ? 5 - 9 : -9);
            Check.same("fee of the first one", desk.has(0, 0, false), money == 0 ? 9 - 5 : -5);
            Check.same("partners still", desk.payment(0, 5) * 10 + desk.payment(1, 5), 10);
            desk.pass(30);
            Check.same("once", desk.count(5), 2);
        }
        // the one with the greater number fails first, and takes the smaller one with it
        NettingDesk desk = Check.deskTold("party a line 9; party b line 9; money m rate 100 cut 5; money n rate 100 cut 23;"
            + "pay a to b 500 n on 9; pay b to a 900 m on 0 for 0; pay a to b 100 m on 0;");
        desk.pass(5);
        Check.same("all three fail", desk.count(5), 3);
        Check.same("the fees of a", desk.has(0, 0, false) * 100 + desk.has(0, 1, false), 8 * 100 - 5);
        // a cancelled one is nobody's partner any more
        NettingDesk free = Check.deskTold("party a line 9; party b line 9; money m rate 100 cut 5;"
            + "pay a to b 500 m on 0; pay b to a 900 m on 3 for 0; cancel 0;");
        free.pass(30);
        Check.same("it waits", free.payment(1, 6), 0);
        // the partner of one that is put off fails at its own cut, and the other one with it
        NettingDesk off = Check.deskTold("party a line 999; party b line 999; money m rate 100 cut 5;"
            + "pay a to b 500 m on 0; pay b to a 500 m on 0 for 0;");
        Check.same("put off by 2", off.putOff(0, 2), 2);
        off.pass(5);
        Check.same("both have failed", off.count(5), 2);
    }
}
