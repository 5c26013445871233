/** Promises 19 to 24: run, settles, when, frees, advise, ring. */
public final class WouldBeTest {
    public static void main(String[] args) {
        runs();
        settled();
        when();
        collateralAndDefault();
        frees();
        advise();
        rings();
        Check.end("WouldBeTest");
    }

    private static void run(String when, NettingDesk desk, int... due) {
        long before = desk.digest();
        for (int what = 0; what < due.length; what++) {
            Check.same("run " + what + " " + when, desk.run(what), due[what]);
        }
        Check.same("digest behind runs " + when, desk.digest(), before);
    }

    private static void runs() {
        NettingDesk desk = Check.deskTold("party a line 10; party b; party c; money m rate 150 cut 9; money n rate 33 cut 9;"
            + "pay a to b 5 m on 0; pay a to b 5 m on 0; pay b to c 31 n on 0; pay c to a 1 n on 0; pay c to a 9 m on 1;");
        // a: -10 m is 15 and 1 n more; b: 31 n less is 11, 10 m more; c: 30 n more, 1 n less
        // worth: 7 and 7 and 10 and 0; gains: b 10 m is 15, c 30 n is 9, a 1 n is 0
        // a leaves out 5 m, b 31 n, and then c its 1 n
        run("at first", desk, 4, 1, 2, 24, 24);
        desk.deposit(1, 1, 31);
        run("with a deposit for b", desk, 4, 3, 1, 24, 24);
        desk.deposit(0, 0, 4);
        run("with a deposit for a", desk, 4, 4, 0, 24, 24);
        Check.told(desk, "hold 2;");
        // c cannot pay its 1 n then
        run("with one held", desk, 3, 2, 1, 14, 15);
        desk.pass(1);
        Check.index("run(-1)", () -> desk.run(-1));
        Check.index("run(5)", () -> desk.run(5));
        run("when two are settled", desk, 1, 0, 1, 0, 0);
        desk.pass(8);
        run("behind the cut", desk, 0, 0, 0, 0, 0);
        NettingDesk back = Check.deskTold("party a; party b line 50; money m rate 200 cut 9; pay b to a 7 m on 0;");
        run("with a gain of the first party", back, 1, 1, 0, 14, 14);
        // each amount's worth is cut by itself, and so is each gain's
        NettingDesk cut = Check.deskTold("party a line 99; party b; party c; money m rate 50 cut 9;"
            + "pay a to b 1 m on 0; pay a to b 1 m on 0; pay a to c 3 m on 0;");
        run("with worths that are cut", cut, 3, 3, 0, 1, 2);
        NettingDesk much = Check.deskTold("party a line 1000000; party b; money m rate 1000 cut 9;");
        for (int k = 0; k < 60; k++) {
            Check.told(much, "pay a to b 100000 m on 0;");
        }
        run("with much", much, 60, 1, 1, 60000000, 60000000);
    }

    private static void settled() {
        NettingDesk desk = Check.deskTold("party a line 10; party b; money m rate 100 cut 9;"
            + "pay a to b 5 m on 0; pay a to b 6 m on 0; pay a to b 5 m on 0; pay a to b 1 m on 1; cancel 2;");
        long before = desk.digest();
        Check.same("settles 0", desk.settles(0) ? 1 : 0, 1);
        Check.same("settles 1", desk.settles(1) ? 1 : 0, 0);
        Check.same("settles a cancelled one", desk.settles(2) ? 1 : 0, 0);
        Check.same("settles tomorrow's one", desk.settles(3) ? 1 : 0, 0);
        Check.same("digest behind settles", desk.digest(), before);
        desk.pass(1);
        Check.same("settles a settled one", desk.settles(0) ? 1 : 0, 0);
        Check.index("settles(-1)", () -> desk.settles(-1));
        Check.index("settles(4)", () -> desk.settles(4));
    }

    private static void when() {
        NettingDesk desk = Check.deskTold("party a line 10; party b; money m rate 100 cut 9;"
            + "pay a to b 5 m on 0; pay a to b 50 m on 0; pay a to b 1 m on 4; pay a to b 1 m on 5;"
            + "pay a to b 1 m on 0; cancel 4; pay b to a 1 m on 1;");
        long before = desk.digest();
        Check.same("when 0", desk.when(0), 1);
        Check.same("when of one that is to fail", desk.when(1), -1);
        Check.same("when of the day 4", desk.when(2), 97);
        Check.same("when of the day 5", desk.when(3), -1);
        Check.same("when of a cancelled one", desk.when(4), -1);
        Check.same("when by what another settles", desk.when(5), 25);
        Check.same("digest behind when", desk.digest(), before);
        desk.pass(1);
        Check.same("when of a settled one", desk.when(0), 0);
        Check.same("when of the day 4, an hour later", desk.when(2), 96);
        desk.pass(19);
        Check.same("when of the day 5 at the hour 20", desk.when(3), -1);
        desk.pass(1);
        Check.same("when of the day 5 at the hour 21", desk.when(3), 100);
        Check.index("when(-1)", () -> desk.when(-1));
        Check.index("when(6)", () -> desk.when(6));
    }

    private static void collateralAndDefault() {
        NettingDesk desk = Check.deskTold("party a; party b line 99; money m rate 100 cut 23; pay a to b 100 m on 2;");
        desk.deposit(0, 0, 120);
        desk.pledge(0, 0, 120);
        Check.same("when by collateral", desk.when(0), 49);
        desk.amend(0, 109);
        Check.same("when by too little collateral", desk.when(0), -1);
        Check.told(desk, "cancel 0; pay a to b 108 m on 0;");
        Check.same("it settles", desk.pass(1), 1);
        desk.pass(23);
        Check.same("a is in default", desk.party(0, 4), 1);
        Check.told(desk, "pay b to a 5 m on 1; pay b to a 5 m on 2; pay a to b 7 m on 1; pay a to b 7 m on 2;");
        Check.same("when of a payment to a", desk.when(2), -1);
        Check.same("when of tomorrow's to a, whose default stays", desk.when(3), -1);
        Check.same("frees a: none takes part", desk.frees(0, 0), 0);
        Check.same("advise: a deposit ends no default", desk.advise(0, 100000), -1);
        desk.deposit(0, 0, 1000);
        Check.same("when of today's to a", desk.when(2), -1);
        Check.same("when of tomorrow's to a, whose default ends", desk.when(3), 25);
    }

    private static void frees() {
        NettingDesk desk = Check.deskTold("party a line 10; party b; party c; money m rate 100 cut 9; money n rate 10 cut 9;"
            + "pay a to b 1010 m on 0; pay b to c 200 m on 0; pay a to c 500 n on 1; hold 1;");
        long before = desk.digest();
        Check.same("frees a", desk.frees(0, 0), 1000);
        Check.same("frees a in another money", desk.frees(0, 1), -1);
        Check.same("frees c, of whom nothing takes part", desk.frees(2, 0), 0);
        Check.same("frees b, whose one is held", desk.frees(1, 0), 0);
        Check.same("digest behind frees", desk.digest(), before);
        desk.amend(0, 1011);
        Check.same("frees a with 1 more", desk.frees(0, 0), 1500);
        desk.amend(0, 50010);
        Check.same("frees a with 50000", desk.frees(0, 0), 50000);
        desk.amend(0, 50011);
        Check.same("frees a with more than that", desk.frees(0, 0), -1);
        desk.amend(0, 10);
        Check.same("frees a that is free", desk.frees(0, 0), 0);
        Check.told(desk, "hold 1;");
        // b gets 10 of the 200: only what a party pays itself counts
        Check.same("frees a while b is short", desk.frees(0, 0), 0);
        Check.same("frees b", desk.frees(1, 0), 500);
        // left out as a partner: the other one's deposit does not help
        NettingDesk two = Check.deskTold("party a; party b line 900; money m rate 100 cut 9;"
            + "pay a to b 900 m on 0; pay b to a 700 m on 0 for 0;");
        Check.same("frees the partner", two.frees(1, 0), -1);
        Check.same("frees who is short", two.frees(0, 0), 500);
        for (int k = -1; k <= 3; k += 4) {
            int no = k;
            Check.index("frees of no party " + no, () -> desk.frees(no, 0));
            Check.index("frees in no money " + no, () -> desk.frees(0, no));
        }
        Check.index("frees in money 2", () -> desk.frees(0, 2));
    }

    private static void advise() {
        NettingDesk desk = Check.deskTold("party a; party b; party c; party d; money m rate 100 cut 9;"
            + "pay a to d 100 m on 0; pay b to d 100 m on 0; pay b to a 50 m on 0; pay c to d 70 m on 0; pay c to d 80 m on 0;");
        long before = desk.digest();
        Check.same("advise 1", desk.advise(0, 1), -1);
        Check.same("advise 49", desk.advise(0, 49), -1);
        Check.same("advise 50: b pays one", desk.advise(0, 50), 1);
        Check.same("advise 70: b or c pays one", desk.advise(0, 70), 1);
        Check.same("advise 100: a, b or c pays one", desk.advise(0, 100), 0);
        Check.same("advise 150: b or c pays both", desk.advise(0, 150), 1);
        Check.same("digest behind advise", desk.digest(), before);
        Check.told(desk, "cancel 2;");
        Check.same("advise 150: c pays both", desk.advise(0, 150), 2);
        desk.deposit(0, 0, 100);
        desk.deposit(1, 0, 100);
        desk.deposit(2, 0, 150);
        Check.same("advise where all settle", desk.advise(0, 100000), -1);
        Check.argument("advise 0", () -> desk.advise(0, 0));
        Check.argument("advise 100001", () -> desk.advise(0, 100001));
        Check.index("advise in no money", () -> desk.advise(1, 0));
        Check.index("advise in money -1", () -> desk.advise(-1, 5));
    }

    private static void rings() {
        NettingDesk desk = Check.deskTold("party a; party b; party c; party d; money m rate 100 cut 9; money n rate 100 cut 9;"
            + "pay a to b 50 m on 0; pay b to c 40 m on 5; pay c to a 30 m on 7;");
        Check.same("a ring", desk.ring(0), 12);
        Check.same("none in the other money", desk.ring(1), -1);
        Check.told(desk, "pay a to d 90 m on 0; pay d to b 90 m on 0; pay b to a 81 m on 0;");
        // a owes b 50 - 81: the ring a b c is none, b owes a 31
        Check.same("another ring", desk.ring(0), 31);
        Check.told(desk, "pay b to a 9 m on 0; pay d to c 40 m on 0;");
        // a d c: 90, 40, 30; a d b: 90, 90, 40
        Check.same("the ring with the greater least debt", desk.ring(0), 31);
        Check.told(desk, "pay c to a 10 m on 0; hold 8;");
        Check.same("of two the one with the smaller number", desk.ring(0), 31);
        Check.told(desk, "pay c to a 1 m on 0; pay d to c 1 m on 0;");
        Check.same("the other one when it is greater", desk.ring(0), 32);
        Check.told(desk, "cancel 3;");
        Check.same("b, c and d owe in no ring", desk.ring(0), -1);
        Check.told(desk, "pay c to d 60 m on 0; pay b to c 1 m on 0;");
        // c owes d 19, d owes b 90, b owes c 41
        Check.same("a ring without a", desk.ring(0), 123);
        Check.index("ring(-1)", () -> desk.ring(-1));
        Check.index("ring(2)", () -> desk.ring(2));
        // settled ones do not count
        NettingDesk ring = Check.deskTold("party a; party b; party c; money m rate 100 cut 9;"
            + "pay c to b 5 m on 0; pay b to a 1 m on 0; pay a to c 5 m on 0;");
        Check.same("the other way round, with a debt of 1", ring.ring(0), 21);
        ring.amend(1, 5);
        Check.same("with debts of 5", ring.ring(0), 21);
        ring.pass(1);
        Check.same("settled", ring.ring(0), -1);
    }
}
