/** Promises 14 to 17: payment, amend, putOff, owes. */
public final class PaymentTest {
    public static void main(String[] args) {
        whatIsTold();
        amended();
        putOff();
        owed();
        Check.end("PaymentTest");
    }

    private static void payment(String when, NettingDesk desk, int payment, int... due) {
        for (int what = 0; what < due.length; what++) {
            Check.same("payment " + payment + " " + what + " " + when, desk.payment(payment, what), due[what]);
        }
    }

    private static void whatIsTold() {
        NettingDesk desk = Check.deskTold("party a line 1000; party b line 1000; party c; money m rate 100 cut 9;"
            + "money n rate 100 cut 3; pay a to b 7 n on 1; pay c to a 90 m on 0; pay b to a 8 m on 1 for 0; hold 1;");
        payment("at first", desk, 0, 0, 1, 7, 1, 1, 2, 0, 0, -1);
        payment("at first", desk, 1, 2, 0, 90, 0, 0, -1, 0, 1, -1);
        payment("at first", desk, 2, 1, 0, 8, 0, 1, 0, 0, 0, -1);
        desk.pass(25);
        payment("when settled", desk, 0, 0, 1, 7, 1, 1, 2, 1, 0, 24);
        payment("when failed", desk, 1, 2, 0, 90, 0, 0, -1, 2, 1, -1);
        payment("when settled", desk, 2, 1, 0, 8, 0, 1, 0, 1, 0, 24);
        desk.pass(1);
        Check.told(desk, "pay a to b 5 m on 1; pay a to b 5 m on 1; cancel 4;");
        desk.pass(1);
        payment("when settled at 2", desk, 3, 0, 1, 5, 0, 1, -1, 1, 0, 26);
        payment("when cancelled", desk, 4, 0, 1, 5, 0, 1, -1, 3, 0, -1);
        Check.index("payment(-1, 0)", () -> desk.payment(-1, 0));
        Check.index("payment(5, 0)", () -> desk.payment(5, 0));
        Check.index("payment(0, -1)", () -> desk.payment(0, -1));
        Check.index("payment(0, 9)", () -> desk.payment(0, 9));
        NettingDesk other = Check.deskTold("party a line 9; party b; money m rate 100 cut 9; pay a to b 5 m on 0;");
        other.pass(1);
        Check.same("settled at the hour 0 of the day 0", other.payment(0, 8), 0);
    }

    private static NettingDesk ended() {
        NettingDesk desk = Check.deskTold("party a line 100; party b; money m rate 100 cut 2;"
            + "pay a to b 10 m on 0; pay b to a 90 m on 0; pay a to b 10 m on 0; pay a to b 10 m on 2; cancel 2;");
        desk.pass(2);
        int[] states = {1, 2, 3, 0};
        for (int n = 0; n < 4; n++) {
            Check.same("state " + n, desk.payment(n, 6), states[n]);
        }
        return desk;
    }

    private static void amended() {
        NettingDesk desk = ended();
        Check.same("amend", desk.amend(3, 100000), 10);
        Check.same("amend again", desk.amend(3, 1), 100000);
        Check.same("the amount", desk.payment(3, 2), 1);
        Check.argument("amend to 0", () -> desk.amend(3, 0));
        Check.argument("amend to 100001", () -> desk.amend(3, 100001));
        Check.index("amend of no payment", () -> desk.amend(4, 0));
        Check.index("amend of payment -1", () -> desk.amend(-1, 5));
        for (int n = 0; n < 3; n++) {
            int one = n;
            Check.state("amend of what does not wait " + n, () -> desk.amend(one, 5));
            Check.argument("amend to 0 of what does not wait " + n, () -> desk.amend(one, 0));
        }
        Check.same("the amount behind all that", desk.payment(3, 2), 1);
    }

    private static void putOff() {
        NettingDesk desk = ended();
        Check.same("putOff", desk.putOff(3, 1), 3);
        Check.same("putOff again", desk.putOff(3, 30), 33);
        Check.same("and again, further than can be told", desk.putOff(3, 30), 63);
        Check.same("the day", desk.payment(3, 4), 63);
        Check.argument("putOff by 0", () -> desk.putOff(3, 0));
        Check.argument("putOff by 31", () -> desk.putOff(3, 31));
        Check.argument("putOff by -1", () -> desk.putOff(3, -1));
        Check.index("putOff of no payment", () -> desk.putOff(4, 0));
        Check.index("putOff of payment -1", () -> desk.putOff(-1, 1));
        for (int n = 0; n < 3; n++) {
            int one = n;
            Check.state("putOff of what does not wait " + n, () -> desk.putOff(one, 5));
            Check.argument("putOff by 0 of what does not wait " + n, () -> desk.putOff(one, 0));
        }
        Check.same("the day behind all that", desk.payment(3, 4), 63);
        // it takes part on its new day alone, and its partner stays where it was
        NettingDesk two = Check.deskTold("party a line 99; party b line 99; money m rate 100 cut 20;"
            + "pay a to b 10 m on 0; pay b to a 20 m on 1 for 0;");
        Check.same("putOff of one of two", two.putOff(0, 1), 1);
        Check.same("the other one", two.payment(1, 4), 1);
        Check.same("they settle on that day", two.pass(25), 2);
    }

    private static void owed() {
        NettingDesk desk = Check.deskTold("party a line 1000; party b; party c; money m rate 100 cut 2; money n rate 1 cut 9;"
            + "pay a to b 10 m on 0; pay b to a 4 m on 5; pay a to b 100 m on 7; pay a to b 1000 n on 7;"
            + "pay a to c 77 m on 7; pay a to b 300 m on 1; hold 2; cancel 5;");
        Check.same("a owes b", desk.owes(0, 1, 0), 106);
        Check.same("b owes a", desk.owes(1, 0, 0), -106);
        Check.same("a owes b in the other money", desk.owes(0, 1, 1), 1000);
        Check.same("a owes c", desk.owes(0, 2, 0), 77);
        Check.same("b owes c", desk.owes(1, 2, 0), 0);
        Check.same("a owes a", desk.owes(0, 0, 0), 0);
        desk.pass(1);
        Check.same("a owes b when one is settled", desk.owes(0, 1, 0), 96);
        for (int k = -1; k <= 3; k += 4) {
            int no = k;
            Check.index("owes of no party " + no, () -> desk.owes(no, 0, 0));
            Check.index("owes to no party " + no, () -> desk.owes(0, no, 0));
            Check.index("owes in no money " + no, () -> desk.owes(0, 1, no));
        }
        Check.index("owes in money 2", () -> desk.owes(0, 1, 2));
    }
}
