import java.util.Random;

/** Long runs of made-up calls, each answered by NettingDesk and by PlainDesk. */
public final class ModelTest {
    private static final int RUNS = 400;
    private static final int CALLS = 512;
    // One step makes fewer calls than this: a text of five sentences is the longest.
    private static final int DEAREST = 30;

    private NettingDesk desk = new NettingDesk();
    private PlainDesk plain = new PlainDesk();
    private final Random random;
    private final int seed;
    private final long[] seen;

    private ModelTest(int seed, long[] seen) {
        this.seed = seed;
        this.seen = seen;
        this.random = new Random(seed);
    }

    public static void main(String[] args) {
        // How often what the runs are to reach was reached: so that they cannot become idle.
        long[] seen = new long[40];
        for (int seed = 0; seed < RUNS; seed++) {
            new ModelTest(seed, seen).play();
        }
        String[] reached = {"payments that settle", "payments that fail", "parties in default",
            "parties short", "payments left out", "frees above 0", "advise of a party", "rings",
            "when above 1", "pairs that settle", "error 0", "error 1", "error 2", "error 3", "error 4",
            "error 5", "error 6", "refused: index", "refused: argument", "refused: state"};
        for (int k = 0; k < reached.length; k++) {
            Check.same("whether there were " + reached[k], seen[k] > 20 ? 1 : 0, 1);
        }
        Check.end("ModelTest");
    }

    private interface Answer {
        long get();
    }

    private void same(String call, Answer got, long want) {
        long answer;
        try {
            answer = got.get();
        } catch (RuntimeException e) {
            Class<?> kind = e.getClass();
            answer = kind == IndexOutOfBoundsException.class ? PlainDesk.INDEX
                : kind == IllegalArgumentException.class ? PlainDesk.ARGUMENT
                : kind == IllegalStateException.class ? PlainDesk.STATE : Long.MIN_VALUE;
        }
        note(17, want == PlainDesk.INDEX);
        note(18, want == PlainDesk.ARGUMENT);
        note(19, want == PlainDesk.STATE);
        Check.same("seed " + seed + ": " + call, answer, want);
    }

    private void note(int what, boolean is) {
        seen[what] += is ? 1 : 0;
    }

    private int below(int most) {
        return random.nextInt(most);
    }

    private int oneOf(int... numbers) {
        return numbers[below(numbers.length)];
    }

    /** Mostly a number below most, now and then one that is not. */
    private int place(int most) {
        if (below(12) == 0 || most <= 0) {
            return oneOf(-1, most, most + 1, Integer.MIN_VALUE, Integer.MAX_VALUE);
        }
        return below(most);
    }

    private int amount() {
        switch (below(10)) {
            case 0: return oneOf(0, -1, 100000, 100001, 1, Integer.MIN_VALUE, Integer.MAX_VALUE);
            case 1: return 1 + below(100000);
            case 2: return 1 + below(100);
            default: return 1 + below(5000);
        }
    }

    private void play() {
        int left = CALLS - 1 - teachText(opening());
        while (left >= DEAREST) {
            left -= oneCall();
        }
        same("digest", () -> desk.digest(), plain.digest());
    }

    private int oneCall() {
        int p = place(plain.ps.size());
        int q = place(plain.ps.size());
        int m = place(plain.ms.size());
        int n = place(plain.ys.size());
        int x = amount();
        int kind = below(40);
        switch (kind) {
            case 0: case 1: case 2: case 3: case 4: case 5:
                return teachText(sentences());
            case 6: case 7: case 8: case 9: case 10:
                return passHours();
            case 11: case 12: case 13:
                same("deposit", () -> desk.deposit(p, m, x), plain.deposit(p, m, x));
                return 1;
            case 14:
                same("withdraw", () -> desk.withdraw(p, m, x), plain.withdraw(p, m, x));
                return 1;
            case 15: case 16: {
                int moved = below(2) == 0 ? x : -x;
                same("pledge", () -> desk.pledge(p, m, moved), plain.pledge(p, m, moved));
                return 1;
            }
            case 17:
                return oddCall();
            case 18:
                same("setRate", () -> desk.setRate(m, x), plain.setRate(m, x));
                return 1;
            case 19: case 20:
                same("amend", () -> desk.amend(n, x), plain.amend(n, x));
                return 1;
            case 21: {
                int days = below(4) == 0 ? oneOf(0, 31, 30, -5) : 1 + below(3);
                same("putOff", () -> desk.putOff(n, days), plain.putOff(n, days));
                return 1;
            }
            case 22: case 23:
                return owesAndRing(p, q, m);
            case 24:
                same("digest", () -> desk.digest(), plain.digest());
                return 1;
            case 25:
                return reportAndRead();
            default:
                return wouldBe(kind, p, m, n, x);
        }
    }

    private int wouldBe(int kind, int p, int m, int n, int x) {
        switch (kind) {
            case 26: case 27:
                return runs();
            case 28: case 29:
                same("settles", () -> desk.settles(n) ? 1 : 0, plain.settles(n));
                return 1;
            case 30: case 31: {
                long when = plain.when(n);
                note(8, when > 1);
                same("when", () -> desk.when(n), when);
                return 1;
            }
            case 32: case 33: {
                long frees = plain.frees(p, m);
                note(5, frees > 0);
                same("frees", () -> desk.frees(p, m), frees);
                return 1;
            }
            case 34: case 35: {
                long advised = plain.advise(m, x);
                note(6, advised >= 0);
                same("advise", () -> desk.advise(m, x), advised);
                return 1;
            }
            default:
                return told(p, m, n);
        }
    }

    private int told(int p, int m, int n) {
        int what = place(12);
        boolean isCollateral = below(2) == 0;
        same("count", () -> desk.count(what), plain.count(what));
        same("party", () -> desk.party(p, what), plain.party(p, what));
        same("money", () -> desk.money(m, what), plain.money(m, what));
        same("payment", () -> desk.payment(n, what), plain.payment(n, what));
        same("has", () -> desk.has(p, m, isCollateral), plain.has(p, m, isCollateral));
        return 5;
    }

    private int runs() {
        for (int what = 0; what <= 4; what++) {
            int one = what;
            same("run " + one, () -> desk.run(one), plain.run(one));
        }
        note(3, plain.run(2) > 0);
        note(4, plain.run(1) < plain.run(0) && plain.run(1) > 0);
        return 5;
    }

    private int passHours() {
        int hours = below(3) == 0 ? oneOf(24, 0, 101, 5, 12, 48, 100) : 1 + below(6);
        long settled = plain.pass(hours);
        same("pass " + hours, () -> desk.pass(hours), settled);
        note(0, settled > 0);
        note(1, plain.count(5) > 0);
        note(2, plain.count(9) > 0);
        note(9, plain.ys.stream().anyMatch(y -> y.partner != -1 && y.state == 1));
        same("kept", () -> Double.doubleToLongBits(desk.kept()), Double.doubleToLongBits(plain.kept()));
        return 2;
    }

    private int owesAndRing(int p, int q, int m) {
        same("owes", () -> desk.owes(p, q, m), plain.owes(p, q, m));
        note(7, plain.ring(m) >= 0);
        same("ring", () -> desk.ring(m), plain.ring(m));
        return 2;
    }

    private int reportAndRead() {
        int day = below(8) == 0 ? oneOf(-1, Integer.MAX_VALUE, Integer.MIN_VALUE) : (int) plain.day + below(5) - 1;
        same("report", () -> desk.report(day), plain.report(day));
        int index = place(plain.paper.length());
        same("byteAt", () -> desk.byteAt(index), plain.byteAt(index));
        return 2;
    }

    private int oddCall() {
        int n = oneOf(0, 1, -1, 2000, 2001, 7);
        same("trim", () -> desk.trim(n), plain.trim(n));
        int[] five = {random.nextInt(), 0x20202020, random.nextInt(), 0x3b3b3b3b, random.nextInt()};
        same("feed", () -> desk.feed(five[0], five[1], five[2], five[3], five[4]), plain.feed(five));
        same("teach", () -> desk.teach(), plain.teach());
        same("errorAt", () -> desk.errorAt(), plain.errorAt());
        return 4;
    }

    private int teachText(String text) {
        byte[] bytes = new byte[(text.length() + 19) / 20 * 20];
        for (int k = 0; k < bytes.length; k++) {
            bytes[k] = k < text.length() ? (byte) text.charAt(k) : 32;
        }
        int calls = 0;
        for (int k = 0; k < bytes.length; k += 20) {
            int[] five = new int[5];
            for (int i = 0; i < 5; i++) {
                five[i] = Check.four(bytes, k + 4 * i);
            }
            same("feed", () -> desk.feed(five[0], five[1], five[2], five[3], five[4]), plain.feed(five));
            calls++;
        }
        same("trim", () -> desk.trim(text.length()), plain.trim(text.length()));
        long error = plain.teach();
        note(10 + (int) error, true);
        same("teach of " + text, () -> desk.teach(), error);
        same("errorAt of " + text, () -> desk.errorAt(), plain.errorAt());
        return calls + 3;
    }

    // ---- made-up texts

    private String opening() {
        StringBuilder text = new StringBuilder();
        int parties = oneOf(2, 3, 4, 4, 6, 10);
        int moneys = oneOf(1, 2, 2, 3, 5);
        for (int p = 0; p < parties; p++) {
            text.append("party p").append(p);
            if (below(3) != 0) {
                text.append(" line ").append(below(4) == 0 ? below(1000001) : below(8000));
            }
            text.append(";");
        }
        for (int m = 0; m < moneys; m++) {
            text.append("money m").append(m).append(" rate ").append(oneOf(100, 1, 1000, 133, 1 + below(1000)));
            text.append(" cut ").append(oneOf(23, 23, 12, 1 + below(23))).append(";");
        }
        return text.toString();
    }

    private String sentences() {
        StringBuilder text = new StringBuilder();
        int most = 1 + below(5);
        for (int k = 0; k < most; k++) {
            text.append(sentence()).append(oneOf(0, 0, 1) == 1 ? "\n " : "");
        }
        if (below(25) == 0 && text.length() > 0) {
            text.setCharAt(below(text.length()), (char) oneOf(';', ' ', 'a', '0', '#', 200, 10));
        }
        if (below(40) == 0) {
            text.setLength(below(text.length() + 1));
        }
        return text.toString();
    }

    private String name(boolean party) {
        if (below(40) == 0) {
            return oneOf(0, 1) == 0 ? "nobody" : party ? "m0" : "p0";
        }
        int most = party ? plain.ps.size() : plain.ms.size();
        return (party ? "p" : "m") + below(Math.max(most, 1));
    }

    private String sentence() {
        int kind = below(40);
        if (kind == 0) {
            return "party p" + (plain.ps.size() + oneOf(0, 0, -1)) + ";";
        }
        if (kind == 1) {
            return "money m" + (plain.ms.size() + oneOf(0, 0, -1)) + " rate " + below(1002) + " cut " + below(25) + ";";
        }
        if (kind < 5) {
            return "hold " + below(plain.ys.size() + 1) + ";";
        }
        if (kind < 7) {
            return "cancel " + below(plain.ys.size() + 1) + ";";
        }
        if (kind == 7 && below(4) == 0) {
            return "party x line 1000001;";
        }
        return pay();
    }

    private String pay() {
        long day = below(30) == 0 ? oneOf(0, 31 + (int) plain.day) : plain.day + oneOf(0, 0, 0, 1, 2);
        int amount = below(30) == 0 ? oneOf(0, 100001, 100000) : 1 + below(oneOf(100, 5000, 5000, 20000));
        String from = name(true);
        String to = name(true);
        for (int k = 0; k < 5 && to.equals(from); k++) {
            to = name(true);
        }
        return "pay " + from + " to " + to + " " + amount + " " + name(false) + " on " + day
            + (below(4) == 0 ? " for " + below(plain.ys.size() + 1) : "") + ";";
    }
}
