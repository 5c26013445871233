/** Promises 1 to 6: a new object, feed, trim, teach, errorAt, count. */
public final class LanguageTest {
    public static void main(String[] args) {
        newDesk();
        feedAndTrim();
        tokens();
        grammar();
        manyTokens();
        names();
        ranges();
        capacity();
        nothingOfARefusedText();
        holdAndCancel();
        partners();
        counts();
        Check.end("LanguageTest");
    }

    private static void newDesk() {
        NettingDesk desk = new NettingDesk();
        for (int what = 0; what <= 11; what++) {
            Check.same("count of a new desk " + what, desk.count(what), 0);
        }
        Check.same("errorAt of a new desk", desk.errorAt(), -1);
        Check.index("party of a new desk", () -> desk.party(0, 0));
        Check.index("money of a new desk", () -> desk.money(0, 0));
        Check.index("payment of a new desk", () -> desk.payment(0, 0));
        Check.same("run of a new desk", desk.run(0), 0);
        Check.same("kept of a new desk", desk.kept(), 1.0);
    }

    private static void feedAndTrim() {
        NettingDesk desk = new NettingDesk();
        for (int k = 1; k <= 100; k++) {
            Check.same("feed " + k, desk.feed(0x20202020, 0x20202020, 0x0a202020, -1, 0x2020200a), 20 * k);
        }
        Check.state("feed over 2000", () -> desk.feed(0, 0, 0, 0, 0));
        Check.same("bytes of a full tape", desk.count(10), 2000);
        Check.argument("trim(2001)", () -> desk.trim(2001));
        Check.argument("trim(-1)", () -> desk.trim(-1));
        Check.argument("trim of the least int", () -> desk.trim(Integer.MIN_VALUE));
        Check.same("trim to all", desk.trim(2000), 2000);
        Check.same("trim(1981)", desk.trim(1981), 1981);
        Check.state("feed to 2001", () -> desk.feed(0, 0, 0, 0, 0));
        Check.same("trim(1980)", desk.trim(1980), 1980);
        Check.same("feed to 2000", desk.feed(0, 0, 0, 0, 0), 2000);
        Check.same("teach of bytes 255", desk.teach(), 1);
        Check.same("errorAt of the first byte 255", desk.errorAt(), 12);
        Check.same("the tape behind teach", desk.count(10), 0);
        Check.same("trim(0)", desk.trim(0), 0);
        Check.argument("trim(1) of an empty tape", () -> desk.trim(1));
        // "party a ;" by its bytes, the highest of each number first
        desk.feed(0x70617274, 0x79206120, 0x3b202020, 0x20202020, 0x20202020);
        Check.same("teach of a party by its bytes", desk.teach(), 0);
        Check.same("parties told", desk.count(0), 1);
        desk.feed(0x0a0a2020, 0x70617274, 0x79206220, 0x3b202020, 0x20206100);
        Check.same("teach of a name at a sentence's place", desk.teach(), 1);
        Check.same("its place", desk.errorAt(), 18);
    }

    private static void tokens() {
        Check.told(new NettingDesk(), "");
        Check.told(new NettingDesk(), " \n \n");
        Check.told(new NettingDesk(), "party a;party b;");
        Check.told(new NettingDesk(), "\n party\na\nline 5 ;\n");
        Check.told(new NettingDesk(), "party abcdefgh;party a2345678;");
        Check.told(new NettingDesk(), "party z;party az09;");
        Check.refusedText(new NettingDesk(), "party {;", 1, 6);
        Check.refusedText(new NettingDesk(), "party `;", 1, 6);
        Check.refusedText(new NettingDesk(), "party a line /;", 1, 13);
        Check.refusedText(new NettingDesk(), "party a line :;", 1, 13);
        Check.refusedText(new NettingDesk(), "party abcdefghi;", 1, 6);
        Check.refusedText(new NettingDesk(), "party a23456789;", 1, 6);
        Check.refusedText(new NettingDesk(), "abcdefghi", 1, 0);
        Check.refusedText(new NettingDesk(), "party a line 12345678;", 1, 13);
        Check.refusedText(new NettingDesk(), "party a line 00000000;", 1, 13);
        Check.told(new NettingDesk(), "party a line 0000000;");
        Check.refusedText(new NettingDesk(), "party a line 9999999;", 5, 13);
        Check.refusedText(new NettingDesk(), "party A;", 1, 6);
        Check.refusedText(new NettingDesk(), "party aB;", 1, 7);
        Check.refusedText(new NettingDesk(), "party\ta;", 1, 5);
        Check.refusedText(new NettingDesk(), "party\ra;", 1, 5);
        Check.refusedText(new NettingDesk(), "party a" + (char) 233 + ";", 1, 7);
        Check.refusedText(new NettingDesk(), "party a; #", 1, 9);
        Check.refusedText(new NettingDesk(), "partya;", 1, 0);
        // "12on" is a number and then a word, "on12" one word
        Check.told(new NettingDesk(), "party a;party b;money m rate 1cut 1;pay a to b 5m on 0;");
        Check.refusedText(new NettingDesk(), "party a;party b;money m rate 1cut 1;pay a to b 5m on0;", 1, 50);
        Check.refusedText(new NettingDesk(), "party a line5;", 1, 8);
        Check.refusedText(new NettingDesk(), "party 5;", 1, 6);
        Check.told(new NettingDesk(), "party party1;party lines;");
    }

    private static void grammar() {
        String[] keywords = {"party", "line", "money", "rate", "cut", "pay", "to", "on", "for", "hold", "cancel"};
        for (String keyword : keywords) {
            Check.refusedText(new NettingDesk(), "party " + keyword + ";", 1, 6);
            Check.refusedText(new NettingDesk(), "money " + keyword + " rate 1 cut 1;", 1, 6);
        }
        Check.refusedText(new NettingDesk(), "party", 1, 5);
        Check.refusedText(new NettingDesk(), "party  \n", 1, 8);
        Check.refusedText(new NettingDesk(), "party a", 1, 7);
        Check.refusedText(new NettingDesk(), "party a line", 1, 12);
        Check.refusedText(new NettingDesk(), "party a line 5", 1, 14);
        Check.refusedText(new NettingDesk(), "party a line 5 line 5;", 1, 15);
        Check.refusedText(new NettingDesk(), "party a 5;", 1, 8);
        Check.refusedText(new NettingDesk(), "party a;;", 1, 8);
        Check.refusedText(new NettingDesk(), ";", 1, 0);
        Check.refusedText(new NettingDesk(), "a", 1, 0);
        Check.refusedText(new NettingDesk(), "7", 1, 0);
        Check.refusedText(new NettingDesk(), "line 5;", 1, 0);
        Check.refusedText(new NettingDesk(), "money m cut 5 rate 5;", 1, 8);
        Check.refusedText(new NettingDesk(), "money m rate 5;", 1, 14);
        Check.refusedText(new NettingDesk(), "money m rate m cut 5;", 1, 13);
        Check.refusedText(new NettingDesk(), "money m rate 5 cut;", 1, 18);
        Check.refusedText(new NettingDesk(), "pay a b 5 m on 0;", 1, 6);
        Check.refusedText(new NettingDesk(), "pay a to b m 5 on 0;", 1, 11);
        Check.refusedText(new NettingDesk(), "pay a to b 5 m 0;", 1, 15);
        Check.refusedText(new NettingDesk(), "pay a to b 5 m on 0 for;", 1, 23);
        Check.refusedText(new NettingDesk(), "pay a to b 5 m on 0 for 1 2;", 1, 26);
        Check.refusedText(new NettingDesk(), "pay a to b 5 m on 0 hold;", 1, 20);
        Check.refusedText(new NettingDesk(), "hold a;", 1, 5);
        Check.refusedText(new NettingDesk(), "hold 0", 1, 6);
        Check.refusedText(new NettingDesk(), "cancel;", 1, 6);
        // error 1 anywhere goes ahead of every other error
        Check.refusedText(new NettingDesk(), "party a;party a;hold 5;x", 1, 23);
    }

    private static void manyTokens() {
        StringBuilder full = new StringBuilder("party a;party b;money m rate 1 cut 9;pay a to b 1 m on 0;");
        // 3 + 3 + 7 + 9 tokens; 126 times 3 more are 400
        for (int k = 0; k < 126; k++) {
            full.append("hold 0;");
        }
        Check.told(new NettingDesk(), full.toString());
        Check.told(new NettingDesk(), full + "  \n");
        Check.refusedText(new NettingDesk(), full + "hold 0;", 1, full.length());
        Check.refusedText(new NettingDesk(), full + "  hold", 1, full.length() + 2);
        Check.refusedText(new NettingDesk(), full + "  #", 1, full.length() + 2);
        // 399 tokens and one that does not end the sentence
        String cut = full.substring(0, full.length() - 1);
        Check.refusedText(new NettingDesk(), cut, 1, cut.length());
        Check.refusedText(new NettingDesk(), cut + " 1;", 1, cut.length() + 1);
        // with the tokens of other sentences in between
        StringBuilder odd = new StringBuilder("party a line 5;party b line 5;party c line 5;");
        odd.append("money m rate 1 cut 9;pay a to b 1 m on 0;");
        for (int k = 0; k < 123; k++) {
            odd.append("hold 0;");
        }
        // 15 + 7 + 9 + 369 = 400
        Check.told(new NettingDesk(), odd.toString());
        odd.append("cancel 0;");
        Check.refusedText(new NettingDesk(), odd.toString(), 1, odd.length() - 9);
    }

    private static void names() {
        String base = "party a; party b; money m rate 1 cut 1; ";
        int at = base.length();
        Check.refusedText(new NettingDesk(), base + "party a;", 2, at + 6);
        Check.refusedText(new NettingDesk(), base + "party m;", 2, at + 6);
        Check.refusedText(new NettingDesk(), base + "money a rate 1 cut 1;", 2, at + 6);
        Check.refusedText(new NettingDesk(), base + "money m rate 1 cut 1;", 2, at + 6);
        Check.refusedText(new NettingDesk(), base + "money m rate 0 cut 0;", 2, at + 6);
        Check.refusedText(new NettingDesk(), base + "pay c to b 1 m on 0;", 3, at + 4);
        Check.refusedText(new NettingDesk(), base + "pay m to b 1 m on 0;", 3, at + 4);
        Check.refusedText(new NettingDesk(), base + "pay a to m 1 m on 0;", 3, at + 9);
        Check.refusedText(new NettingDesk(), base + "pay a to a 0 x on 99;", 6, at + 9);
        Check.refusedText(new NettingDesk(), base + "pay x to x 1 m on 0;", 3, at + 4);
        Check.refusedText(new NettingDesk(), base + "pay a to b 0 x on 0;", 5, at + 11);
        Check.refusedText(new NettingDesk(), base + "pay a to b 1 a on 0;", 3, at + 13);
        Check.refusedText(new NettingDesk(), base + "pay a to b 1 x on 31;", 3, at + 13);
        // what an earlier text told counts, too; names that differ late or in length differ
        NettingDesk desk = Check.deskTold("party abcdefgh; money abc rate 1 cut 1;");
        Check.refusedText(desk, "party abcdefgh;", 2, 6);
        Check.told(desk, "party abcdefgi; party abcdefg; party aa; party aaa; party ab;");
        Check.refusedText(desk, "money abc rate 1 cut 1;", 2, 6);
        Check.refusedText(desk, "party abc;", 2, 6);
        Check.same("parties with like names", desk.count(0), 6);
        // a name told by a later sentence is not there yet
        Check.refusedText(new NettingDesk(), "party a; party b; pay a to b 1 m on 0; money m rate 1 cut 1;", 3, 31);
    }

    private static void ranges() {
        Check.told(new NettingDesk(), "party a line 0; party b line 1000000;");
        Check.refusedText(new NettingDesk(), "party a line 1000001;", 5, 13);
        Check.told(new NettingDesk(), "money a rate 1 cut 1; money b rate 1000 cut 23;");
        Check.refusedText(new NettingDesk(), "money a rate 0 cut 1;", 5, 13);
        Check.refusedText(new NettingDesk(), "money a rate 1001 cut 0;", 5, 13);
        Check.refusedText(new NettingDesk(), "money a rate 1 cut 0;", 5, 19);
        Check.refusedText(new NettingDesk(), "money a rate 1 cut 24;", 5, 19);
        NettingDesk desk = Check.deskTold("party a; party b; money m rate 1 cut 1;");
        Check.told(desk, "pay a to b 1 m on 0; pay a to b 100000 m on 30;");
        Check.refusedText(desk, "pay a to b 0 m on 0;", 5, 11);
        Check.refusedText(desk, "pay a to b 100001 m on 0;", 5, 11);
        Check.refusedText(desk, "pay a to b 1 m on 31;", 5, 18);
        desk.pass(48);
        Check.refusedText(desk, "pay a to b 1 m on 1;", 5, 18);
        Check.told(desk, "pay a to b 1 m on 2; pay a to b 1 m on 32;");
        Check.refusedText(desk, "pay a to b 1 m on 33;", 5, 18);
        Check.same("payments within their ranges", desk.count(2), 4);
        // the highest ones are kept as they are
        Check.same("amount 100000", desk.payment(1, 2), 100000);
    }

    private static void capacity() {
        NettingDesk desk = new NettingDesk();
        for (int k = 0; k < 10; k++) {
            Check.told(desk, "party p" + k + " line " + k + ";");
        }
        Check.refusedText(desk, "party p10;", 4, 6);
        Check.refusedText(desk, "party p10 line 1000001;", 4, 6);
        Check.refusedText(desk, "party p9;", 2, 6);
        Check.told(desk, "money a rate 1 cut 2; money b rate 1 cut 2; money c rate 1 cut 2;");
        Check.refusedText(desk, "money d rate 1 cut 2; money e rate 1 cut 2; money f rate 1 cut 2;", 4, 50);
        Check.same("moneys behind too many", desk.count(1), 3);
        Check.told(desk, "money d rate 1 cut 2; money e rate 1 cut 2;");
        Check.refusedText(desk, "money f rate 0 cut 2;", 4, 6);
        Check.refusedText(desk, "money p3 rate 0 cut 2;", 2, 6);
        Check.told(desk, "pay p0 to p9 1 a on 5;".repeat(30));
        Check.told(desk, "pay p0 to p9 1 a on 5;".repeat(29));
        Check.refusedText(desk, "pay p0 to p9 1 a on 5; pay p0 to p9 1 a on 5;", 4, 27);
        Check.same("payments behind too many", desk.count(2), 59);
        Check.told(desk, "pay p0 to p9 1 e on 5;");
        Check.refusedText(desk, "pay p0 to p0 0 x on 99;", 4, 4);
        Check.refusedText(desk, "pay x to p0 0 x on 99;", 3, 4);
        Check.told(desk, "hold 59; cancel 58;");
        Check.refusedText(desk, "pay p0 to p9 1 a on 5;", 4, 4);
        Check.same("the last party's line", desk.party(9, 0), 9);
        Check.same("the last payment's money", desk.payment(59, 3), 4);
    }

    private static void nothingOfARefusedText() {
        NettingDesk desk = Check.deskTold("party a line 7; party b; money m rate 3 cut 4; pay a to b 9 m on 3;");
        desk.deposit(0, 0, 50);
        long before = desk.digest();
        Check.refusedText(desk, "party c line 5; money n rate 1 cut 1; pay c to a 5 n on 0 for 0; hold 0; cancel 1; hold 9;",
            5, 88);
        Check.same("digest behind a refused text", desk.digest(), before);
        Check.refusedText(desk, "hold 0; cancel 0; party a;", 2, 24);
        Check.same("digest behind a refused cancel", desk.digest(), before);
        Check.refusedText(desk, "party c line 5; party d; x", 1, 25);
        Check.same("digest behind an error 1", desk.digest(), before);
        Check.told(desk, "party c; money n rate 1 cut 1; pay a to c 5 n on 0;");
        Check.same("line of a party told at a used place", desk.party(2, 0), 0);
        Check.same("partner of a payment told at a used place", desk.payment(1, 5), -1);
        Check.refusedText(desk, "pay a to c 5 n on 0; hold 2; cancel 2; cancel 2;", 5, 46);
        Check.told(desk, "pay a to c 6 n on 1;");
        Check.same("state of a payment told at a used place", desk.payment(2, 6), 0);
        Check.same("whether it is held", desk.payment(2, 7), 0);
        Check.same("errorAt behind a text without error", desk.errorAt(), -1);
    }

    private static void holdAndCancel() {
        NettingDesk desk = Check.deskTold("party a; party b; money m rate 1 cut 4; pay a to b 9 m on 3; pay a to b 9 m on 3;");
        Check.told(desk, "hold 1;");
        Check.same("held", desk.payment(1, 7), 1);
        Check.same("the other one held", desk.payment(0, 7), 0);
        Check.told(desk, "hold 1; hold 0;");
        Check.same("held twice", desk.payment(1, 7), 0);
        Check.same("the other one held then", desk.payment(0, 7), 1);
        Check.refusedText(desk, "hold 2;", 5, 5);
        Check.refusedText(desk, "cancel 2;", 5, 7);
        Check.told(desk, "cancel 0;");
        Check.same("cancelled", desk.payment(0, 6), 3);
        Check.same("cancelled and held", desk.payment(0, 7), 1);
        Check.refusedText(desk, "cancel 0;", 5, 7);
        Check.refusedText(desk, "hold 0;", 5, 5);
        Check.refusedText(desk, "hold 1; cancel 1; hold 1;", 5, 23);
        Check.same("a refused cancel", desk.payment(1, 6), 0);
    }

    private static void partners() {
        NettingDesk desk = Check.deskTold("party a; party b; money m rate 1 cut 4; pay a to b 9 m on 3; pay b to a 9 m on 4 for 0;");
        Check.same("partner of the first", desk.payment(0, 5), 1);
        Check.same("partner of the second", desk.payment(1, 5), 0);
        Check.refusedText(desk, "pay b to a 9 m on 4 for 0;", 5, 24);
        Check.refusedText(desk, "pay b to a 9 m on 4 for 1;", 5, 24);
        Check.refusedText(desk, "pay b to a 9 m on 4 for 2;", 5, 24);
        Check.told(desk, "cancel 1; pay b to a 9 m on 4 for 0;");
        Check.same("new partner", desk.payment(0, 5), 2);
        Check.same("partner of the cancelled one", desk.payment(1, 5), -1);
        Check.same("partner of the new one", desk.payment(2, 5), 0);
        Check.refusedText(desk, "pay b to a 9 m on 4 for 1;", 5, 24);
        Check.told(desk, "cancel 0;");
        Check.same("partner of one whose partner is cancelled", desk.payment(2, 5), -1);
        Check.same("it waits", desk.payment(2, 6), 0);
        Check.told(desk, "hold 2; pay a to b 1 m on 0 for 2;");
        Check.same("a held one is a partner", desk.payment(3, 5), 2);
    }

    private static void counts() {
        NettingDesk desk = Check.deskTold("party a line 5; party b; party c; money m rate 100 cut 2;"
            + "pay a to b 5 m on 0; pay b to c 9 m on 0; pay c to a 1 m on 1; pay c to a 1 m on 1; cancel 3;");
        Check.write(desk, "x");
        int[] due = {3, 1, 4, 3, 0, 0, 1, 0, 0, 0, 1, 0};
        for (int what = 0; what < due.length; what++) {
            Check.same("count " + what, desk.count(what), due[what]);
        }
        desk.pass(2);
        desk.report(0);
        int[] then = {3, 1, 4, 1, 1, 1, 1, 0, 2, 0, 1, 20};
        for (int what = 0; what < then.length; what++) {
            Check.same("count then " + what, desk.count(what), then[what]);
        }
        Check.index("count(-1)", () -> desk.count(-1));
        Check.index("count(12)", () -> desk.count(12));
        Check.index("count of the greatest int", () -> desk.count(Integer.MAX_VALUE));
    }
}
