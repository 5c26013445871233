/** What must change nothing: a refused text (but for the tape and errorAt), and what only asks. */
public final class UnchangedTest {
    private static final String CHANGES = "party d line 9; money o rate 5 cut 6; pay d to a 5 o on 1 for 4;"
        + "pay c to d 1 o on 1; hold 9; hold 4; cancel 2; cancel 8;";

    public static void main(String[] args) {
        refusedTexts();
        refusedTextsOfAFullDesk();
        theTapeIsEmptyThen();
        asks();
        asksOfAFullDesk();
        Check.end("UnchangedTest");
    }

    // ---- "If the text has one, nothing of it is told"

    private static NettingDesk withEmptyTape(Desks.Made made) {
        NettingDesk desk = made.make();
        desk.trim(0);
        return desk;
    }

    private static void refusedText(Desks.Made made, String untouched, String text, int error, int place) {
        NettingDesk desk = withEmptyTape(made);
        Check.refusedText(desk, text, error, place);
        Check.same("all that is told behind " + text, Desks.toldButErrorAt(desk), untouched);
    }

    private static void refusedTexts() {
        String untouched = Desks.toldButErrorAt(withEmptyTape(Desks::mixed));
        int at = CHANGES.length();
        String[] last = {"x", "party e line 1", "#", "party b;", "money d rate 1 cut 1;", "pay d to e 1 o on 1;",
            "pay d to c 1 b on 1;", "pay d to c 0 o on 1;", "pay d to c 1 o on 0;", "pay d to c 1 o on 32;",
            "hold 8;", "cancel 2;", "hold 13;", "pay c to d 1 m on 1 for 11;", "pay d to d 1 o on 1;"};
        int[] errors = {1, 1, 1, 2, 2, 3, 3, 5, 5, 5, 5, 5, 5, 5, 6};
        int[] places = {0, 14, 0, 6, 6, 9, 13, 11, 18, 18, 5, 7, 5, 24, 9};
        for (int k = 0; k < last.length; k++) {
            refusedText(Desks::mixed, untouched, CHANGES + last[k], errors[k], at + places[k]);
        }
        // and without the last sentence it is taken
        NettingDesk desk = withEmptyTape(Desks::mixed);
        Check.told(desk, CHANGES);
        Check.same("all that is told when it is taken",
            Desks.toldButErrorAt(desk).equals(untouched) ? "the same" : "another", "another");
        // a place that a refused text had used is as good as new
        NettingDesk again = withEmptyTape(Desks::mixed);
        Check.refusedText(again, CHANGES + "x", 1, at);
        Check.refusedText(again, CHANGES + "hold 99;", 5, at + 5);
        Check.told(again, CHANGES);
        NettingDesk once = withEmptyTape(Desks::mixed);
        Check.told(once, CHANGES);
        Check.same("all that is told of what was refused first", Desks.told(again), Desks.told(once));
    }

    private static void refusedTextsOfAFullDesk() {
        String untouched = Desks.toldButErrorAt(Desks.full());
        String changes = "hold 0; cancel 59; cancel 29; ";
        int at = changes.length();
        refusedText(Desks::full, untouched, changes + "party x;", 4, at + 6);
        refusedText(Desks::full, untouched, changes + "money x rate 1 cut 1;", 4, at + 6);
        refusedText(Desks::full, untouched, changes + "pay partner0 to partner1 1 dollars0 on 0;", 4, at + 4);
        refusedText(Desks::full, untouched, changes + "hold 60;", 5, at + 5);
        refusedText(Desks::full, untouched, changes + "cancel 9999999;", 5, at + 7);
    }

    /** "it is empty behind it", whatever the error is; and the next text begins at the position 0. */
    private static void theTapeIsEmptyThen() {
        String[] texts = {"", "party b;", "#", "party a;", "pay a to z 1 m on 0;", "party a line 1000001;",
            "party c; party d; party e; party f; party g; party h; party i; party j; party k; party l;",
            "pay a to a 1 m on 0;"};
        int[] errors = {0, 0, 1, 2, 3, 2, 4, 6};
        int[] places = {-1, -1, 0, 6, 9, 6, 87, 9};
        for (int k = 0; k < texts.length; k++) {
            NettingDesk desk = Check.deskTold("party a; money m rate 1 cut 1;");
            Check.refusedText(desk, texts[k], errors[k], places[k]);
            Check.same("bytes behind " + texts[k], desk.count(10), 0);
            Check.same("trim(0) behind " + texts[k], desk.trim(0), 0);
            Check.argument("trim(1) behind " + texts[k], () -> desk.trim(1));
            Check.same("errorAt still", desk.errorAt(), places[k]);
            Check.same("feed behind " + texts[k], desk.feed(0x20202020, 0x20202020, 0x23202020, 0, 0), 20);
            Check.same("errorAt behind feed", desk.errorAt(), places[k]);
            Check.same("teach of the next one", desk.teach(), 1);
            Check.same("its position", desk.errorAt(), 8);
            Check.same("teach of nothing", desk.teach(), 0);
            Check.same("errorAt behind it", desk.errorAt(), -1);
        }
    }

    // ---- "nothing is changed"

    private static void ask(Desks.Made made, String untouched, String what, Desks.Asked call) {
        NettingDesk desk = made.make();
        call.make(desk);
        call.make(desk);
        Check.same("all that is told behind " + what, Desks.told(desk), untouched);
    }

    private static void asks() {
        String untouched = Desks.told(Desks.mixed());
        for (int k = 0; k < 12; k++) {
            int x = k;
            ask(Desks::mixed, untouched, "count " + x, desk -> desk.count(x));
        }
        for (int k = 0; k <= 4; k++) {
            int x = k;
            ask(Desks::mixed, untouched, "run " + x, desk -> desk.run(x));
        }
        for (int k = 0; k < 11; k++) {
            int n = k;
            ask(Desks::mixed, untouched, "settles " + n, desk -> desk.settles(n));
            ask(Desks::mixed, untouched, "when " + n, desk -> desk.when(n));
            ask(Desks::mixed, untouched, "payment " + n, desk -> desk.payment(n, n % 9));
        }
        for (int k = 0; k < 6; k++) {
            int p = k / 2;
            int m = k % 2;
            ask(Desks::mixed, untouched, "frees " + p + " " + m, desk -> desk.frees(p, m));
            ask(Desks::mixed, untouched, "owes " + p + " " + m, desk -> desk.owes(p, 2 - p, m));
            ask(Desks::mixed, untouched, "has " + p + " " + m, desk -> desk.has(p, m, m == 0));
            ask(Desks::mixed, untouched, "party " + p, desk -> desk.party(p, 3 + m));
            ask(Desks::mixed, untouched, "money " + m, desk -> desk.money(m, p));
            ask(Desks::mixed, untouched, "advise " + m, desk -> desk.advise(m, 1 + 49999 * p));
            ask(Desks::mixed, untouched, "ring " + m, desk -> desk.ring(m));
        }
        ask(Desks::mixed, untouched, "kept", desk -> desk.kept());
        ask(Desks::mixed, untouched, "digest", desk -> desk.digest());
        ask(Desks::mixed, untouched, "byteAt", desk -> desk.byteAt(0));
        ask(Desks::mixed, untouched, "errorAt", desk -> desk.errorAt());
        ask(Desks::mixed, untouched, "trim to all", desk -> desk.trim(desk.count(10)));
    }

    private static void asksOfAFullDesk() {
        String untouched = Desks.told(Desks.full());
        ask(Desks::full, untouched, "run", desk -> desk.run(1));
        ask(Desks::full, untouched, "settles 59", desk -> desk.settles(59));
        ask(Desks::full, untouched, "when 59", desk -> desk.when(59));
        ask(Desks::full, untouched, "frees 9 4", desk -> desk.frees(9, 4));
        ask(Desks::full, untouched, "advise 4", desk -> desk.advise(4, 100000));
        ask(Desks::full, untouched, "ring 4", desk -> desk.ring(4));
    }
}
