/** Promises 7 to 13: party, money, setRate, has, deposit, withdraw, pledge. */
public final class PartyTest {
    public static void main(String[] args) {
        whatIsTold();
        roundings();
        money();
        rate();
        balances();
        withdrawals();
        pledges();
        pledgeBackAndRoom();
        largeSums();
        Check.end("PartyTest");
    }

    private static NettingDesk desk() {
        return Check.deskTold("party a line 50; party b; money m rate 150 cut 5; money n rate 33 cut 9;"
            + "pay a to b 7 m on 0; pay a to b 3 n on 0; pay b to a 100 m on 0;");
    }

    private static void party(String when, NettingDesk desk, int party, int... due) {
        for (int what = 0; what < due.length; what++) {
            Check.same("party " + party + " " + what + " " + when, desk.party(party, what), due[what]);
        }
    }

    private static void whatIsTold() {
        NettingDesk desk = desk();
        party("at first", desk, 0, 50, 50, 0, 50, 0, 2, 1);
        party("at first", desk, 1, 0, 0, 0, 0, 0, 1, 2);
        Check.index("party(-1, 0)", () -> desk.party(-1, 0));
        Check.index("party(2, 0)", () -> desk.party(2, 0));
        Check.index("party(0, -1)", () -> desk.party(0, -1));
        Check.index("party(0, 7)", () -> desk.party(0, 7));
        Check.index("party(9, 0) of two", () -> desk.party(9, 0));
    }

    private static void roundings() {
        NettingDesk desk = desk();
        desk.deposit(0, 0, 101);
        desk.deposit(0, 1, 10);
        // 101 * 150 / 100 = 151, 9 tenths 135; 10 * 33 / 100 = 3, 9 tenths 2: each cut by itself
        Check.same("pledge of 101", desk.pledge(0, 0, 101), 185);
        Check.same("pledge of 10", desk.pledge(0, 1, 10), 187);
        party("with collateral", desk, 0, 50, 187, 0, 187, 0, 2, 1);
        Check.same("pass", desk.pass(1), 2);
        // 7 * 1.5 and 3 * 0.33, each rounded up by itself: 11 and 1
        party("with debts", desk, 0, 50, 187, 12, 175, 0, 0, 1);
        party("with credit", desk, 1, 0, 0, 0, 0, 0, 1, 0);
        desk.setRate(0, 100);
        party("at another rate", desk, 0, 50, 50 + 90 + 2, 8, 134, 0, 0, 1);
    }

    private static void money() {
        NettingDesk desk = desk();
        int[] m = {150, 5, 1, 107};
        int[] n = {33, 9, 1, 3};
        for (int what = 0; what <= 3; what++) {
            Check.same("money 0 " + what, desk.money(0, what), m[what]);
            Check.same("money 1 " + what, desk.money(1, what), n[what]);
        }
        desk.pass(4);
        Check.same("ahead of the cut", desk.money(0, 2), 1);
        Check.same("what waits then", desk.money(0, 3), 100);
        Check.same("what waits then in the other one", desk.money(1, 3), 0);
        desk.pass(1);
        Check.same("at the cut", desk.money(0, 2), 0);
        Check.same("ahead of the other cut", desk.money(1, 2), 1);
        Check.same("what waits behind the cut", desk.money(0, 3), 0);
        desk.pass(19);
        Check.same("on the next day", desk.money(0, 2), 1);
        Check.index("money(-1, 0)", () -> desk.money(-1, 0));
        Check.index("money(2, 0)", () -> desk.money(2, 0));
        Check.index("money(0, -1)", () -> desk.money(0, -1));
        Check.index("money(0, 4)", () -> desk.money(0, 4));
    }

    private static void rate() {
        NettingDesk desk = desk();
        Check.same("setRate", desk.setRate(1, 1000), 33);
        Check.same("setRate again", desk.setRate(1, 1), 1000);
        Check.same("the rate", desk.money(1, 0), 1);
        Check.same("the rate of the other one", desk.money(0, 0), 150);
        Check.argument("setRate 0", () -> desk.setRate(1, 0));
        Check.argument("setRate 1001", () -> desk.setRate(1, 1001));
        Check.index("setRate of no money", () -> desk.setRate(2, 1));
        Check.index("setRate of no money to no rate", () -> desk.setRate(-1, 0));
        Check.same("the rate behind all that", desk.money(1, 0), 1);
    }

    private static void balances() {
        NettingDesk desk = desk();
        Check.same("has at first", desk.has(0, 0, false), 0);
        Check.same("collateral at first", desk.has(0, 0, true), 0);
        Check.same("deposit", desk.deposit(0, 1, 40), 40);
        Check.same("deposit again", desk.deposit(0, 1, 100000), 100040);
        Check.same("deposit of 1", desk.deposit(1, 0, 1), 1);
        desk.pledge(0, 1, 39);
        Check.same("balance", desk.has(0, 1, false), 100001);
        Check.same("collateral", desk.has(0, 1, true), 39);
        Check.same("balance of the other money", desk.has(0, 0, false), 0);
        Check.same("balance of the other party", desk.has(1, 1, false), 0);
        for (int k = -1; k <= 2; k += 3) {
            int no = k;
            Check.index("has of no party " + no, () -> desk.has(no, 0, false));
            Check.index("has of no money " + no, () -> desk.has(0, no, true));
            Check.index("deposit of no party " + no, () -> desk.deposit(no, 0, 0));
            Check.index("deposit of no money " + no, () -> desk.deposit(0, no, 0));
            Check.index("withdraw of no party " + no, () -> desk.withdraw(no, 0, 0));
            Check.index("withdraw of no money " + no, () -> desk.withdraw(0, no, 1));
            Check.index("pledge of no party " + no, () -> desk.pledge(no, 0, 0));
            Check.index("pledge of no money " + no, () -> desk.pledge(0, no, 1));
        }
        Check.argument("deposit of 0", () -> desk.deposit(0, 0, 0));
        Check.argument("deposit of 100001", () -> desk.deposit(0, 0, 100001));
        Check.argument("deposit of less than 0", () -> desk.deposit(0, 0, Integer.MIN_VALUE));
        Check.same("balance behind refused deposits", desk.has(0, 0, false), 0);
    }

    private static void withdrawals() {
        NettingDesk desk = desk();
        desk.deposit(0, 0, 100000);
        Check.same("withdraw", desk.withdraw(0, 0, 99990), 10);
        Check.state("withdraw of 1 too much", () -> desk.withdraw(0, 0, 11));
        Check.argument("withdraw of 0", () -> desk.withdraw(0, 0, 0));
        Check.argument("withdraw of 100001", () -> desk.withdraw(0, 0, 100001));
        Check.same("balance behind refused ones", desk.has(0, 0, false), 10);
        Check.same("withdraw of all", desk.withdraw(0, 0, 10), 0);
        Check.state("withdraw of nothing there", () -> desk.withdraw(0, 0, 1));
        // a line does not count: what is withdrawn has to be there
        Check.state("withdraw by a line", () -> desk.withdraw(0, 1, 1));
    }

    private static void pledges() {
        NettingDesk desk = desk();
        desk.deposit(0, 0, 100);
        Check.state("pledge of 1 too much", () -> desk.pledge(0, 0, 101));
        Check.argument("pledge of 0", () -> desk.pledge(0, 0, 0));
        Check.argument("pledge of 100001", () -> desk.pledge(0, 0, 100001));
        Check.argument("pledge of -100001", () -> desk.pledge(0, 0, -100001));
        Check.argument("pledge of the least int", () -> desk.pledge(0, 0, Integer.MIN_VALUE));
        Check.state("pledge of 100000", () -> desk.pledge(0, 0, 100000));
        Check.state("pledge of -100000", () -> desk.pledge(0, 0, -100000));
        Check.same("pledge of all", desk.pledge(0, 0, 100), 50 + 135);
        Check.state("pledge back of 1 too much", () -> desk.pledge(0, 0, -101));
        Check.same("collateral", desk.has(0, 0, true), 100);
        Check.same("pledge back of a part", desk.pledge(0, 0, -40), 50 + 81);
        Check.same("balance then", desk.has(0, 0, false), 40);
        Check.same("collateral then", desk.has(0, 0, true), 60);
        Check.same("pledge back of the rest", desk.pledge(0, 0, -60), 50);
    }

    private static void pledgeBackAndRoom() {
        NettingDesk desk = Check.deskTold("party a; party b; money m rate 100 cut 5; money n rate 100 cut 5;"
            + "pay a to b 80 n on 0;");
        desk.deposit(0, 0, 100);
        desk.pledge(0, 0, 100);
        Check.same("settles by its collateral", desk.pass(1), 1);
        Check.same("room", desk.party(0, 3), 10);
        Check.state("pledge back to a room below 0", () -> desk.pledge(0, 0, -12));
        Check.same("collateral behind it", desk.has(0, 0, true), 100);
        Check.same("balance behind it", desk.has(0, 0, false), 0);
        Check.same("pledge back to the room 0", desk.pledge(0, 0, -11), 0);
        Check.state("pledge back of 2 more", () -> desk.pledge(0, 0, -2));
        // to the collateral it is moved whatever the room
        desk.setRate(1, 1000);
        Check.same("room far below 0", desk.party(0, 3), 80 - 800);
        Check.same("pledge with a room below 0", desk.pledge(0, 0, 11), 90 - 800);
        desk.deposit(0, 1, 5);
        Check.state("pledge of a balance below 0", () -> desk.pledge(0, 1, 1));
    }

    private static void largeSums() {
        NettingDesk desk = Check.deskTold("party a line 1000000; money m rate 1000 cut 5;");
        for (int k = 0; k < 250; k++) {
            desk.deposit(0, 0, 100000);
            desk.pledge(0, 0, 100000);
        }
        Check.same("much collateral", desk.has(0, 0, true), 25000000);
        Check.same("its limit", desk.party(0, 1), 1000000 + 225000000);
        Check.same("room", desk.party(0, 3), 226000000);
    }
}
