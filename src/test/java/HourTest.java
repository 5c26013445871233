/** Promise 18: pass; the runs in it, the ends of hours and days, and what fails. */
public final class HourTest {
    public static void main(String[] args) {
        arguments();
        whoTakesPart();
        netting();
        whoIsShort();
        whatIsLeftOut();
        partnersAreLeftOut();
        time();
        interest();
        leastByInterest();
        defaults();
        whatFails();
        partnersFail();
        Check.end("HourTest");
    }

    private static void arguments() {
        NettingDesk desk = new NettingDesk();
        Check.argument("pass(0)", () -> desk.pass(0));
        Check.argument("pass(-1)", () -> desk.pass(-1));
        Check.argument("pass(101)", () -> desk.pass(101));
        Check.same("the hour behind refused ones", desk.count(8), 0);
        Check.same("pass(100)", desk.pass(100), 0);
        Check.same("the day", desk.count(7), 4);
        Check.same("the hour", desk.count(8), 4);
    }

    private static void states(String when, NettingDesk desk, String due) {
        StringBuilder got = new StringBuilder();
        for (int n = 0; n < desk.count(2); n++) {
            got.append("wsfc".charAt(desk.payment(n, 6)));
        }
        Check.same("states " + when, got.toString(), due);
    }

    private static void balances(String when, NettingDesk desk, int money, int... due) {
        for (int p = 0; p < due.length; p++) {
            Check.same("balance of " + p + " " + when, desk.has(p, money, false), due[p]);
        }
    }

    private static void whoTakesPart() {
        NettingDesk desk = Check.deskTold("party a line 1000; party b line 1000; money m rate 100 cut 1; money n rate 100 cut 3;"
            + "pay a to b 1 m on 0; pay a to b 2 n on 0; pay a to b 3 n on 1; pay a to b 4 n on 0; hold 3;"
            + "pay a to b 5 n on 0; pay b to a 6 n on 0; hold 5; cancel 4;"
            + "pay a to b 7 n on 0 for 3; pay a to b 8 n on 0; pay a to b 9 m on 1 for 7;");
        Check.same("settle in the hour 0", desk.pass(1), 2);
        states("behind the hour 0", desk, "ssww" + "cwwww");
        balances("behind the hour 0", desk, 0, -1, 1);
        balances("behind the hour 0", desk, 1, -2, 2);
        Check.told(desk, "hold 3; pay a to b 1 m on 0;");
        Check.same("settle in the hour 1", desk.pass(1), 2);
        // the partner of 7 is due tomorrow; m has been cut off at 1: told behind it, 9 fails
        states("behind the hour 1", desk, "sswscwswwf");
        desk.pass(1);
        states("behind the hour 2", desk, "sswscfsfff");
        // 2 + 4 + 7 settled; the fees of such amounts are 0
        balances("at the cut", desk, 1, -13, 13);
    }

    private static void netting() {
        // a ring: nobody has anything, and all settle, as nothing is left of it
        NettingDesk desk = Check.deskTold("party a; party b; party c; money m rate 100 cut 9;"
            + "pay a to b 100000 m on 0; pay b to c 100000 m on 0; pay c to a 100000 m on 0;");
        Check.same("a ring settles", desk.pass(1), 3);
        balances("behind a ring", desk, 0, 0, 0, 0);
        // a balance, a line and collateral, each to the last one
        NettingDesk rich = Check.deskTold("party a line 10; party b; money m rate 100 cut 9; money n rate 100 cut 9;"
            + "pay a to b 119 m on 0;");
        rich.deposit(0, 0, 100);
        rich.deposit(0, 1, 10);
        rich.pledge(0, 1, 10);
        Check.same("what it can bear", rich.pass(1), 1);
        balances("then", rich, 0, -19, 119);
        NettingDesk poor = Check.deskTold("party a line 10; party b; money m rate 100 cut 9; money n rate 100 cut 9;"
            + "pay a to b 120 m on 0;");
        poor.deposit(0, 0, 100);
        poor.deposit(0, 1, 10);
        poor.pledge(0, 1, 10);
        Check.same("one more than it can bear", poor.pass(1), 0);
        balances("then", poor, 0, 100, 0);
        // balances of another money do not help, and the exposure is rounded up
        NettingDesk other = Check.deskTold("party a line 1; party b; money m rate 101 cut 9; money n rate 100 cut 9;"
            + "pay a to b 1 m on 0;");
        other.deposit(0, 1, 1000);
        Check.same("a 1.01 for a line of 1", other.pass(1), 0);
    }

    private static void whoIsShort() {
        // over its limit already, but not more by what is netted: not short
        NettingDesk desk = Check.deskTold("party a line 100; party b line 500; money m rate 100 cut 23; money n rate 100 cut 23;"
            + "pay a to b 100 m on 0;");
        desk.pass(1);
        desk.setRate(0, 200);
        Check.same("room below 0", desk.party(0, 3), -100);
        Check.told(desk, "pay a to b 50 m on 0; pay b to a 50 m on 0;");
        Check.same("netted to nothing", desk.pass(1), 2);
        Check.told(desk, "pay a to b 50 m on 0; pay b to a 49 m on 0;");
        Check.same("netted to 1 less: only the other one settles", desk.pass(1), 1);
        balances("then", desk, 0, -51, 51);
        // still over its limit, but with less exposure than now: the worth of both moneys counts
        desk.setRate(0, 1000);
        Check.same("exposure", desk.party(0, 2), 510);
        desk.amend(3, 20);
        Check.told(desk, "pay a to b 50 n on 0; cancel 3; pay b to a 5 m on 0;");
        Check.same("50 more and 50 less", desk.run(2), 0);
        Check.same("they settle", desk.pass(1), 2);
        balances("then", desk, 0, -46, 46);
        balances("then", desk, 1, -50, 50);
    }

    private static void whatIsLeftOut() {
        // the greatest amount * rate, not the greatest amount
        NettingDesk desk = Check.deskTold("party a line 100; party b; money m rate 100 cut 9; money n rate 300 cut 9;"
            + "pay a to b 90 m on 0; pay a to b 40 n on 0;");
        Check.same("one settles", desk.pass(1), 1);
        states("by worth", desk, "sw");
        // of several the one with the greatest number, though their worth in whole numbers were the same
        NettingDesk even = Check.deskTold("party a line 100; party b; money m rate 100 cut 9; money n rate 300 cut 9;"
            + "pay a to b 60 m on 0; pay a to b 20 n on 0; pay a to b 60 m on 0;");
        even.pass(1);
        states("by numbers, two times", even, "sww");
        NettingDesk fine = Check.deskTold("party a line 1; party b; money m rate 101 cut 9; money n rate 100 cut 9;"
            + "pay a to b 1 m on 0; pay a to b 1 n on 0;");
        fine.pass(1);
        states("by a worth that is not cut", fine, "ws");
        // what one leaves out can make another one short, one with a smaller number, too
        NettingDesk chain = Check.deskTold("party a; party b; party c; money m rate 100 cut 9;"
            + "pay c to a 10 m on 0; pay b to c 10 m on 0; pay a to b 10 m on 0; pay a to b 5 m on 0;");
        chain.pass(1);
        states("in a chain", chain, "wwww");
        // of two that are short the one with the smallest number goes first
        NettingDesk two = Check.deskTold("party a; party b line 8; party c; money m rate 100 cut 9;"
            + "pay a to c 5 m on 0; pay b to c 6 m on 0 for 0; pay b to c 8 m on 0;");
        Check.same("two are short", two.run(2), 2);
        two.pass(1);
        states("when a goes ahead of b", two, "wws");
    }

    private static void partnersAreLeftOut() {
        NettingDesk desk = Check.deskTold("party a; party b line 100; money m rate 100 cut 9; money n rate 100 cut 9;"
            + "pay a to b 50 m on 0; pay b to a 50 n on 0 for 0; pay b to a 5 n on 0;");
        Check.same("only the one without partner", desk.pass(1), 1);
        states("with a partner left out", desk, "wws");
        desk.deposit(0, 0, 50);
        Check.same("both then", desk.pass(1), 2);
        states("with a deposit", desk, "sss");
        Check.same("the hour of both", desk.payment(0, 8) * 100 + desk.payment(1, 8), 101);
        // two of one party: both are left out at once
        NettingDesk one = Check.deskTold("party a line 9; party b; money m rate 100 cut 9;"
            + "pay a to b 4 m on 0; pay a to b 6 m on 0 for 0;");
        one.pass(1);
        states("with both of one party", one, "ww");
    }

    private static void time() {
        NettingDesk desk = new NettingDesk();
        desk.pass(23);
        Check.same("the hour 23", desk.count(8), 23);
        Check.same("the day 0", desk.count(7), 0);
        desk.pass(1);
        Check.same("the hour 0", desk.count(8), 0);
        Check.same("the day 1", desk.count(7), 1);
    }

    private static NettingDesk debtor(int amount) {
        NettingDesk desk = Check.deskTold("party a line 1000000; party b; money m rate 100 cut 23; pay a to b " + amount + " m on 0;");
        desk.pass(1);
        return desk;
    }

    private static void interest() {
        NettingDesk desk = debtor(1099);
        desk.pass(22);
        balances("ahead of the end of the day", desk, 0, -1099, 1099);
        desk.pass(1);
        balances("a day later", desk, 0, -1109, 1099);
        desk.pass(24);
        balances("two days later", desk, 0, -1120, 1099);
        NettingDesk small = debtor(99);
        small.pass(24);
        balances("a hundredth cut to 0", small, 0, -99, 99);
        NettingDesk hundred = debtor(100);
        hundred.pass(24);
        balances("a hundredth of 100", hundred, 0, -101, 100);
    }

    private static void leastByInterest() {
        NettingDesk desk = Check.deskTold("party a line 1000000; party b; money m rate 1 cut 23;");
        for (int k = 0; k < 2; k++) {
            Check.told(desk, "pay a to b 100000 m on 0;".repeat(28));
        }
        Check.same("much settles", desk.pass(1), 56);
        balances("then", desk, 0, -5600000, 5600000);
        long due = -5600000;
        desk.pass(23);
        due += due / 100;
        Check.same("a day later", desk.has(0, 0, false), due);
        int days = 1;
        while (due + due / 100 >= -10000000) {
            desk.pass(24);
            due += due / 100;
            days++;
            Check.same("day " + days, desk.has(0, 0, false), due);
        }
        desk.pass(24);
        Check.same("the least", desk.has(0, 0, false), -10000000);
        desk.pass(24);
        Check.same("it stays", desk.has(0, 0, false), -10000000);
        int today = desk.count(7);
        Check.told(desk, "pay a to b 100000 m on " + today + "; hold 56;");
        desk.pass(24);
        Check.same("less by a fee", desk.has(0, 0, false), -10001000);
        desk.pass(48);
        Check.same("less already", desk.has(0, 0, false), -10001000);
        Check.same("exposure of much", desk.party(0, 2), 100010);
    }

    private static void defaults() {
        NettingDesk desk = Check.deskTold("party a line 1000; party b line 9000; money m rate 100 cut 20;"
            + "pay a to b 1000 m on 0; pay b to a 1 m on 1; pay a to b 2 m on 2;");
        desk.pass(1);
        Check.same("room 0", desk.party(0, 3), 0);
        desk.setRate(0, 200);
        Check.same("room below 0", desk.party(0, 3), -1000);
        desk.pass(22);
        Check.same("no default ahead of the end of the day", desk.count(9), 0);
        desk.setRate(0, 100);
        desk.pass(1);
        // the interest of 10 is there already when it is looked at
        Check.same("default by interest", desk.party(0, 4), 1);
        Check.same("the other one", desk.party(1, 4), 0);
        Check.same("parties in default", desk.count(9), 1);
        desk.deposit(0, 0, 5000);
        Check.same("default up to the end of the day", desk.party(0, 4), 1);
        Check.same("payments to it do not take part", desk.run(0), 0);
        Check.same("nothing settles", desk.pass(23), 0);
        Check.same("one has failed", desk.payment(1, 6), 2);
        Check.same("still in default", desk.party(0, 4), 1);
        desk.pass(1);
        Check.same("no more in default", desk.party(0, 4), 0);
        Check.same("payments of it settle", desk.pass(1), 1);
        // at the room 0 there is no default
        NettingDesk even = Check.deskTold("party a line 101; party b; money m rate 100 cut 20; pay a to b 100 m on 0;");
        even.pass(24);
        Check.same("exposure", even.party(0, 2), 101);
        Check.same("no default at the room 0", even.party(0, 4), 0);
        // fees come behind it: they count on the next day
        NettingDesk fee = Check.deskTold("party a; party b; money m rate 100 cut 20; pay a to b 500 m on 0;"
            + "pay a to b 500 m on 1;");
        fee.pass(20);
        Check.same("a fee", fee.has(0, 0, false), -5);
        Check.same("no default by a fee yet", fee.count(9), 0);
        fee.pass(4);
        Check.same("default by a fee", fee.party(0, 4), 1);
    }

    private static void whatFails() {
        NettingDesk desk = Check.deskTold("party a; party b; money m rate 100 cut 1; money n rate 100 cut 3;"
            + "pay a to b 199 m on 0; pay a to b 99 n on 0; pay a to b 1000 n on 0; pay a to b 1000 n on 0; hold 3;"
            + "pay a to b 1000 n on 1; pay a to b 1000 n on 0; cancel 5;");
        desk.pass(1);
        states("at the cut 1", desk, "fwwwwc");
        balances("a fee", desk, 0, -1, 1);
        desk.pass(1);
        states("at the hour 2", desk, "fwwwwc");
        desk.pass(1);
        states("at the cut 3", desk, "ffffwc");
        balances("two fees, and one of 0", desk, 1, -20, 20);
        desk.pass(20);
        states("at the hour 23", desk, "ffffwc");
        desk.pass(4);
        states("a day later", desk, "fffffc");
        // what was put off over the end of a day
        NettingDesk late = Check.deskTold("party a; party b; money m rate 100 cut 23; pay a to b 1000 m on 0;");
        late.pass(22);
        states("ahead of the cut 23", late, "w");
        Check.same("put off", late.putOff(0, 1), 1);
        late.pass(2);
        states("on the next day", late, "w");
        late.pass(23);
        states("on the next day at 23", late, "f");
        // told behind the cut of its day it fails at the end of the hour
        NettingDesk told = Check.deskTold("party a line 99; party b; money m rate 100 cut 3;");
        told.pass(7);
        Check.told(told, "pay a to b 5 m on 0;");
        Check.same("it does not take part", told.run(0), 0);
        Check.same("nor settle", told.pass(1), 0);
        states("then", told, "f");
        // told in the last hour
        told.pass(15);
        Check.same("the hour 23", told.count(8), 23);
        Check.told(told, "pay a to b 5 m on 0; pay a to b 5 m on 1;");
        told.pass(1);
        states("at the end of the day", told, "ffw");
    }

    private static void partnersFail() {
        NettingDesk desk = Check.deskTold("party a; party b; party c; money m rate 100 cut 2; money n rate 100 cut 9;"
            + "pay a to b 1000 n on 5; pay b to c 2000 m on 0 for 0; pay c to a 3000 n on 0; pay a to c 4000 m on 7 for 2;");
        desk.pass(2);
        states("at the cut 2", desk, "ffww");
        balances("their fees", desk, 0, 0, -20, 20);
        balances("their fees", desk, 1, -10, 10, 0);
        Check.same("they stay partners", desk.payment(0, 5), 1);
        desk.pass(7);
        states("at the cut 9", desk, "ffff");
        balances("all fees", desk, 0, -40, -20, 60);
        balances("all fees", desk, 1, 20, 10, -30);
        // the partner of a cancelled one does not fail with it
        NettingDesk one = Check.deskTold("party a; party b; money m rate 100 cut 2; pay a to b 1000 m on 0;"
            + "pay a to b 2000 m on 5 for 0; cancel 0;");
        one.pass(5);
        states("without its partner", one, "cw");
    }
}
