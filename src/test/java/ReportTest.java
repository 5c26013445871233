/** Promises 25 to 28: report, byteAt, kept, digest. */
public final class ReportTest {
    public static void main(String[] args) {
        reports();
        fullPaper();
        kept();
        digests();
        Check.end("ReportTest");
    }

    private static NettingDesk desk() {
        return Check.deskTold("party a line 100; party longname; money m rate 100 cut 3; money eur rate 50 cut 5;"
            + "pay a to longname 7 m on 0; pay longname to a 90909 eur on 0; pay a to longname 100 m on 1;"
            + "pay a to longname 5 eur on 0; cancel 3;");
    }

    private static void report(NettingDesk desk, int day, String due) {
        Check.same("report " + day, desk.report(day), due.length());
        Check.same("bytes of the paper", desk.count(11), due.length());
        Check.same("the paper of the day " + day, Check.paper(desk), due);
    }

    private static void reports() {
        NettingDesk desk = desk();
        Check.index("byteAt(0) of no paper", () -> desk.byteAt(0));
        report(desk, 0, "a longname 7 m w\nlongname a 90909 eur w\na longname 5 eur c\n");
        report(desk, 1, "a longname 100 m w\n");
        Check.index("byteAt behind the paper", () -> desk.byteAt(19));
        Check.index("byteAt(-1)", () -> desk.byteAt(-1));
        Check.index("byteAt of the least int", () -> desk.byteAt(Integer.MIN_VALUE));
        Check.same("byteAt of the last place", desk.byteAt(18), 10);
        Check.argument("report(-1)", () -> desk.report(-1));
        Check.same("the paper behind a refused report", Check.paper(desk), "a longname 100 m w\n");
        desk.pass(4);
        Check.same("the paper stays as it was written", Check.paper(desk), "a longname 100 m w\n");
        report(desk, 0, "a longname 7 m s\nlongname a 90909 eur w\na longname 5 eur c\n");
        desk.pass(1);
        desk.putOff(2, 4);
        report(desk, 0, "a longname 7 m s\nlongname a 90909 eur f\na longname 5 eur c\n");
        report(desk, 1, "");
        report(desk, 5, "a longname 100 m w\n");
        report(desk, Integer.MAX_VALUE, "");
        desk.amend(2, 100000);
        report(desk, 5, "a longname 100000 m w\n");
        desk.amend(2, 10);
        report(desk, 5, "a longname 10 m w\n");
    }

    private static void fullPaper() {
        String line = "abcdefgh abcdefgi 100000 abcdefgj w\n";
        // a desk of its own for each tenth of the paper, so that none is asked too often
        for (int from = 0; from < 2160; from += 216) {
            NettingDesk desk = Check.deskTold("party abcdefgh; party abcdefgi; money abcdefgj rate 1 cut 1;");
            for (int k = 0; k < 2; k++) {
                Check.told(desk, "pay abcdefgh to abcdefgi 100000 abcdefgj on 0;".repeat(30));
            }
            Check.same("the longest report", desk.report(0), 2160);
            Check.same("the longest paper", desk.count(11), 2160);
            for (int k = from; k < from + 216; k++) {
                Check.same("byteAt " + k, desk.byteAt(k), line.charAt(k % line.length()));
            }
        }
    }

    private static void kept() {
        NettingDesk desk = desk();
        Check.same("kept of none", desk.kept(), 1.0);
        desk.pass(2);
        Check.same("kept of one settled", desk.kept(), 1.0);
        desk.pass(3);
        Check.same("kept of one and one", desk.kept(), 0.5);
        Check.told(desk, "pay longname to a 999 eur on 0;");
        desk.pass(1);
        Check.same("kept of one and two", desk.kept(), 1.0 / 3);
        NettingDesk failed = Check.deskTold("party a; party b; money m rate 1 cut 1; pay a to b 1 m on 0;");
        failed.pass(1);
        Check.same("kept of one failed", failed.kept(), 0.0);
    }

    private static void digests() {
        // the twelve counts of a new desk are all 0
        long d = 647;
        for (int k = 0; k < 12; k++) {
            d *= 31;
        }
        Check.same("digest of a new desk", new NettingDesk().digest(), d);
        NettingDesk desk = desk();
        desk.deposit(0, 1, 5);
        desk.deposit(1, 0, 70);
        desk.pledge(1, 0, 30);
        desk.report(1);
        Check.write(desk, "abc");
        Check.same("digest", desk.digest(), digestByCalls(desk));
        desk.pass(30);
        Check.same("digest then", desk.digest(), digestByCalls(desk));
        Check.same("digest twice", desk.digest(), desk.digest());
    }

    private static long digestByCalls(NettingDesk desk) {
        long d = 647;
        for (int what = 0; what <= 11; what++) {
            d = d * 31 + desk.count(what);
        }
        for (int p = 0; p < desk.count(0); p++) {
            for (int what = 0; what <= 6; what++) {
                d = d * 31 + desk.party(p, what);
            }
            for (int m = 0; m < desk.count(1); m++) {
                d = d * 31 + desk.has(p, m, false);
                d = d * 31 + desk.has(p, m, true);
            }
        }
        for (int m = 0; m < desk.count(1); m++) {
            for (int what = 0; what <= 3; what++) {
                d = d * 31 + desk.money(m, what);
            }
        }
        for (int n = 0; n < desk.count(2); n++) {
            for (int what = 0; what <= 8; what++) {
                d = d * 31 + desk.payment(n, what);
            }
        }
        for (int k = 0; k < desk.count(11); k++) {
            d = d * 31 + desk.byteAt(k);
        }
        return d;
    }
}
