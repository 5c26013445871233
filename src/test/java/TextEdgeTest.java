import java.util.ArrayList;
import java.util.List;

/** The edges that "1. The language" names: bytes, tokens, the grammar at each of its places, and errors. */
public final class TextEdgeTest {
    private static final String BASE = "party a; party b; money m rate 1 cut 1; ";

    // Each form of a sentence; an n stands for a name, a # for a number.
    private static final String[] FORMS = {"party n ;", "party n line # ;", "money n rate # cut # ;",
        "pay n to n # n on # ;", "pay n to n # n on # for # ;", "hold # ;", "cancel # ;"};
    private static final String[] TOKENS = {"party", "line", "money", "rate", "cut", "pay", "to", "on", "for",
        "hold", "cancel", "n", "#", ";"};

    public static void main(String[] args) {
        bytesOfANumber();
        everyByte();
        tapeLengths();
        blanks();
        wordLengths();
        numberLengths();
        likeKeywords();
        everyPlaceOfTheGrammar();
        tokenCounts();
        tokensOfTheTextAhead();
        leftToRightInAPay();
        leftToRightInOthers();
        sentenceBySentence();
        smallestNumber();
        numbersOfLines();
        numbersOfMoneys();
        numbersOfAmounts();
        numbersOfDays();
        numbersOfPayments();
        lastPlaces();
        Check.end("TextEdgeTest");
    }

    private static void text(String text, int error, int place) {
        Check.refusedText(new NettingDesk(), text, error, place);
    }

    private static String blanks(int count) {
        return " ".repeat(count);
    }

    // ---- bytes

    /** "the four bytes of each number, the highest one first": each of the twenty in its place. */
    private static void bytesOfANumber() {
        for (int place = 0; place < 20; place++) {
            for (int one : new int[] {0, 1, 35, 127, 128, 255}) {
                byte[] bytes = new byte[20];
                for (int k = 0; k < 20; k++) {
                    bytes[k] = (byte) (k == place ? one : k % 2 == 0 ? 32 : 10);
                }
                NettingDesk desk = new NettingDesk();
                Check.same("feed", desk.feed(Check.four(bytes, 0), Check.four(bytes, 4), Check.four(bytes, 8),
                    Check.four(bytes, 12), Check.four(bytes, 16)), 20);
                Check.same("teach with the byte " + one + " at " + place, desk.teach(), 1);
                Check.same("errorAt with the byte " + one + " at " + place, desk.errorAt(), place);
            }
        }
    }

    /** "Blanks (32) and line ends (10)", "a letter a to z", "digits", "Symbol: ;": and no other byte. */
    private static void everyByte() {
        for (int one = 0; one < 256; one++) {
            char c = (char) one;
            boolean isBlank = one == 32 || one == 10;
            boolean isDigit = one >= 48 && one <= 57;
            boolean isLetter = one >= 97 && one <= 122;
            boolean isWord = isDigit || isLetter;
            boolean isSymbol = one == 59;
            text("" + c, isBlank ? 0 : 1, isBlank ? -1 : 0);
            text("party" + c + "a;", isBlank ? 0 : 1, isBlank ? -1 : isWord ? 0 : 5);
            text("party " + c + "z;", isBlank || isLetter ? 0 : 1, isBlank || isLetter ? -1 : 6);
            text("party a" + c + ";", isBlank || isWord ? 0 : 1, isBlank || isWord ? -1 : isSymbol ? 8 : 7);
            text("party a line 1" + c + ";", isBlank || isDigit ? 0 : 1,
                isBlank || isDigit ? -1 : isSymbol ? 15 : 14);
            text("party a;" + c, isBlank ? 0 : 1, isBlank ? -1 : 8);
        }
    }

    /** "a row of at most 2000 bytes", "the end of the tape (at its length)". */
    private static void tapeLengths() {
        text("party a" + blanks(1992) + ";", 0, -1);
        text("party a" + blanks(1993), 1, 2000);
        text("party a;" + blanks(1992), 0, -1);
        text("party a;" + blanks(1991) + "#", 1, 1999);
        text(blanks(2000), 0, -1);
        text("\n".repeat(2000), 0, -1);
        text(blanks(1992) + "party a;", 0, -1);
        text(blanks(1993) + "party a", 1, 2000);
        text(blanks(1995) + "party", 1, 2000);
        text(blanks(1994) + "partya", 1, 1994);
        text("party " + blanks(1986) + "abcdefgh", 1, 2000);
        text("party " + blanks(1985) + "abcdefghi", 1, 1991);
        text("hold " + blanks(1988) + "0000000", 1, 2000);
        text("hold " + blanks(1987) + "00000000", 1, 1992);
        text("hold " + "0".repeat(1995), 1, 5);
        text("party " + "a".repeat(1994), 1, 6);
        text("a".repeat(2000), 1, 0);
        text("9".repeat(2000), 1, 0);
        text(";".repeat(2000), 1, 0);
        text("", 0, -1);
        // the tape ends where it was shortened, whatever stood behind that
        NettingDesk desk = new NettingDesk();
        Check.write(desk, "party abc; #");
        Check.same("trim to 11", desk.trim(11), 11);
        Check.same("teach of what is kept", desk.teach(), 0);
        Check.write(desk, "party abcd;");
        Check.same("trim to 10", desk.trim(10), 10);
        Check.same("teach without its symbol", desk.teach(), 1);
        Check.same("its end", desk.errorAt(), 10);
        Check.write(desk, "party d;");
        Check.same("trim to 8", desk.trim(8), 8);
        Check.same("trim to 7", desk.trim(7), 7);
        Check.write(desk, "e;");
        Check.same("teach of a word in two parts", desk.teach(), 0);
        Check.told(desk, "party d; party e;");
        Check.refusedText(desk, "party de;", 2, 6);
    }

    /** Blanks can stand anywhere between tokens, and have to only between two that would be read as one. */
    private static void blanks() {
        text("party a;party b;money m rate 1cut 2;pay a to b 5m on 0;hold 0;cancel 0;", 0, -1);
        text("partya;", 1, 0);
        text("party a line1;", 1, 8);
        text("party aline 1;", 1, 12);
        text("party a line 1 2;", 1, 15);
        text("money m rate1 cut 1;", 1, 8);
        text("money m rate 1 cut1;", 1, 15);
        text("hold0;", 1, 0);
        text("cancel0;", 1, 0);
        text(BASE + "pay a to b 1 m on0;", 1, BASE.length() + 15);
        text(BASE + "pay ato b 1 m on 0;", 1, BASE.length() + 8);
        text(BASE + "pay a to b1 m on 0;", 1, BASE.length() + 12);
        text(BASE + "pay a to b 1 mon 0;", 1, BASE.length() + 17);
        text(BASE + "pay a to b 1m on 0;", 0, -1);
        text(BASE + "pay a to b 1 m on 0 ; pay a to b 1 m on 0for 0;", 0, -1);
        text(" \n\n party \n a \n line \n 1 \n ; \n\n ", 0, -1);
    }

    /** "at most 8 bytes", and "a word that is too long". */
    private static void wordLengths() {
        String letters = "abcdefghij";
        for (int length = 1; length <= 10; length++) {
            String word = letters.substring(0, length);
            String mixed = "z98765432".repeat(2).substring(0, length);
            text("party " + word + ";", length <= 8 ? 0 : 1, length <= 8 ? -1 : 6);
            text("party " + mixed + ";", length <= 8 ? 0 : 1, length <= 8 ? -1 : 6);
            text("money " + word + " rate 1 cut 1;", length <= 8 ? 0 : 1, length <= 8 ? -1 : 6);
        }
        // words that are alike in their first or last eight bytes, or but for the last one, are others
        NettingDesk desk = Check.deskTold("party aaaaaaaa; party aaaaaaab; party baaaaaaa; party aaaaaaa; party a;"
            + "money aaaaaaa0 rate 1 cut 1; money aaaaaa rate 1 cut 1;");
        String[] names = {"aaaaaaaa", "aaaaaaab", "baaaaaaa", "aaaaaaa", "a"};
        for (int p = 0; p < names.length; p++) {
            String to = names[(p + 1) % names.length];
            Check.told(desk, "pay " + names[p] + " to " + to + " 1 aaaaaaa0 on " + p + ";");
            Check.same("who pays", desk.payment(p, 0), p);
            Check.same("who gets it", desk.payment(p, 1), (p + 1) % names.length);
            String line = names[p] + " " + to + " 1 aaaaaaa0 w\n";
            Check.same("report", desk.report(p), line.length());
            Check.same("the names on the paper", Check.paper(desk), line);
        }
    }

    /** "1 to 7 digits", and "a number that is too long". */
    private static void numberLengths() {
        String digits = "0000012345";
        for (int length = 1; length <= 10; length++) {
            String zeros = digits.substring(0, Math.min(length, 5)) + "1".repeat(Math.max(0, length - 5));
            text("party a line " + zeros + ";", length <= 7 ? 0 : 1, length <= 7 ? -1 : 13);
            text("party a line " + "9".repeat(length) + ";", length <= 6 ? 0 : length == 7 ? 5 : 1,
                length <= 6 ? -1 : 13);
        }
        NettingDesk desk = Check.deskTold("party a line 0000012; party b line 0000000; money m rate 0000001 cut 0000023;"
            + "pay a to b 0100000 m on 0000030; pay b to a 0000001 m on 0000000 for 0000000; hold 0000001;");
        Check.same("line 0000012", desk.party(0, 0), 12);
        Check.same("line 0000000", desk.party(1, 0), 0);
        Check.same("rate 0000001", desk.money(0, 0), 1);
        Check.same("cut 0000023", desk.money(0, 1), 23);
        Check.same("amount 0100000", desk.payment(0, 2), 100000);
        Check.same("day 0000030", desk.payment(0, 4), 30);
        Check.same("for 0000000", desk.payment(1, 5), 0);
        Check.same("hold 0000001", desk.payment(1, 7), 1);
        text("party a line 12345678x;", 1, 13);
        text("party a line 1234567x;", 1, 20);
    }

    /** "All other words are names": those that lack or add a byte to a keyword, too. */
    private static void likeKeywords() {
        for (int k = 0; k < 11; k++) {
            String keyword = TOKENS[k];
            text("party " + keyword + ";", 1, 6);
            text("party " + keyword + "x;", 0, -1);
            text("party " + keyword + "0;", 0, -1);
            text("party x" + keyword + ";", 0, -1);
            text("party " + keyword.substring(0, keyword.length() - 1) + ";", 0, -1);
            text("party " + keyword.substring(1) + "q;", 0, -1);
            text(keyword + "x", 1, 0);
        }
    }

    // ---- error 1

    private static String written(String token, int number) {
        return token.equals("n") ? "n" + number : token.equals("#") ? "1" : token;
    }

    /** At each place of each sentence: every token that cannot come next is error 1, at its first byte. */
    private static void everyPlaceOfTheGrammar() {
        for (String form : FORMS) {
            String[] tokens = form.split(" ");
            for (int length = 0; length <= tokens.length; length++) {
                List<String> prefix = new ArrayList<>(List.of(tokens).subList(0, length));
                StringBuilder text = new StringBuilder();
                for (int k = 0; k < length; k++) {
                    text.append(written(prefix.get(k), k)).append(' ');
                }
                List<String> next = nextOf(prefix);
                for (String token : TOKENS) {
                    if (!next.contains(token)) {
                        text(text + written(token, 9), 1, text.length());
                        text(text + "\n" + written(token, 9) + ";", 1, text.length() + 1);
                    } else if (!token.equals(";")) {
                        // then the end of the tape cannot come yet
                        text(text + written(token, 9), 1, text.length() + written(token, 9).length());
                    }
                }
                text(text + "abcdefghi", 1, text.length());
                text(text + "12345678", 1, text.length());
                text(text + "_", 1, text.length());
                if (length > 0 && length < tokens.length) {
                    text(text.toString(), 1, text.length());
                    text(text.toString().trim(), 1, text.length() - 1);
                }
            }
        }
    }

    /** What can come behind the first tokens of a sentence; behind all of one, or none, a sentence begins. */
    private static List<String> nextOf(List<String> prefix) {
        boolean isBetween = prefix.isEmpty() || prefix.get(prefix.size() - 1).equals(";");
        int length = isBetween ? 0 : prefix.size();
        List<String> next = new ArrayList<>();
        for (String form : FORMS) {
            List<String> tokens = List.of(form.split(" "));
            if (isBetween || tokens.size() > length && tokens.subList(0, length).equals(prefix)) {
                next.add(tokens.get(length));
            }
        }
        return next;
    }

    /** "the token that would be the 401st (the end of the tape not counted)". */
    private static void tokenCounts() {
        String base = BASE + "pay a to b 1 m on 0;";
        // 3 + 3 + 7 + 9 = 22 tokens; with 125 times 3 more 397
        String most = base + "hold 0;".repeat(125);
        int at = most.length();
        String[] more = {"", "hold 0;", "hold 0; \n ", "hold 0 ", "hold ", "hold 0;party", "hold 0; party c;",
            "hold 0; ;", "hold 0; #", "hold 0; 12345678", "hold 0; abcdefghi", "hold 0;x", "hold x", "hold 0 0;"};
        int[] errors = {0, 0, 0, 1, 1, 1, 1, 1, 1, 1, 1, 1, 1, 1};
        int[] places = {-1, -1, -1, 7, 5, 7, 8, 8, 8, 8, 8, 7, 5, 7};
        for (int k = 0; k < more.length; k++) {
            text(most + more[k], errors[k], errors[k] == 0 ? -1 : at + places[k]);
        }
        // 5 + 5 + 7 + 9 + 375 = 401: the symbol of a sentence is one too many
        String odd = "party a line 1; party b line 1; money m rate 1 cut 1; pay a to b 1 m on 0;"
            + "hold 0;".repeat(125);
        text(odd, 1, odd.length() - 1);
        // 399, and the 401st is the number of one more sentence
        String even = "party a line 1; party b; money m rate 1 cut 1; pay a to b 1 m on 0;" + "hold 0;".repeat(125);
        text(even, 0, -1);
        text(even + "hold 0;", 1, even.length() + 5);
        // an error ahead of it is told first; a text of 400 tokens may have other errors
        text("x " + most + "hold 0;hold 0;", 1, 0);
        text(most + "hold 1;", 5, at + 5);
        text(";".repeat(401), 1, 0);
    }

    /** A text is told for itself: that the one ahead of it had many tokens does not count. */
    private static void tokensOfTheTextAhead() {
        String[] sentence = {"hold", " 0", ";"};
        for (int tokens = 0; tokens <= 402; tokens++) {
            StringBuilder ahead = new StringBuilder();
            int last = 0;
            for (int k = 0; k < tokens; k++) {
                last = k == 400 ? ahead.length() + (k % 3 == 1 ? 1 : 0) : last;
                ahead.append(sentence[k % 3]);
            }
            NettingDesk desk = Check.deskTold(BASE + "pay a to b 1 m on 0;");
            boolean isText = tokens <= 400 && tokens % 3 == 0;
            int place = isText ? -1 : tokens > 400 ? last : ahead.length();
            Check.refusedText(desk, ahead.toString(), isText ? 0 : 1, place);
            Check.told(desk, "party c; pay c to a 2 m on 0;");
            Check.refusedText(desk, "#" + ahead.substring(0, Math.min(ahead.length(), 1900)), 1, 0);
            Check.told(desk, "hold 1;");
            Check.same("held", desk.payment(1, 7), 1);
        }
    }

    // ---- errors 2 to 6, in their order

    private static String pay(boolean[] wrong, boolean isSelf) {
        StringBuilder text = new StringBuilder("pay ");
        text.append(wrong[0] ? "x" : "a").append(" to ");
        text.append(!wrong[1] ? "b" : isSelf ? wrong[0] ? "x" : "a" : "y");
        text.append(wrong[2] ? " 0 " : " 1 ").append(wrong[3] ? "z" : "m");
        text.append(wrong[4] ? " on 31 for " : " on 30 for ").append(wrong[5] ? "1;" : "0;");
        return text.toString();
    }

    /** "its names and numbers are looked at from left to right": each set of wrong ones. */
    private static void leftToRightInAPay() {
        int[] errors = {3, 3, 5, 3, 5, 5};
        int[] places = {4, 9, 11, 13, 18, 25};
        for (int set = 0; set < 64; set++) {
            boolean[] wrong = new boolean[6];
            int first = -1;
            for (int k = 5; k >= 0; k--) {
                wrong[k] = (set >> k & 1) == 1;
                first = wrong[k] ? k : first;
            }
            for (boolean isSelf : new boolean[] {false, true}) {
                NettingDesk desk = Check.deskTold(BASE + "pay a to b 1 m on 30;");
                String text = pay(wrong, isSelf);
                int error = first < 0 ? 0 : first == 1 && isSelf ? 6 : errors[first];
                Check.refusedText(desk, text, error, first < 0 ? -1 : places[first]);
                Check.same("payments behind " + text, desk.count(2), error == 0 ? 2 : 1);
            }
        }
    }

    private static void leftToRightInOthers() {
        for (int set = 0; set < 8; set++) {
            String name = (set & 1) == 1 ? "a" : "n";
            String rate = (set & 2) == 2 ? "0" : "1";
            String cut = (set & 4) == 4 ? "0" : "1";
            int error = (set & 1) == 1 ? 2 : set == 0 ? 0 : 5;
            int place = (set & 1) == 1 ? 6 : (set & 2) == 2 ? 13 : set == 0 ? -1 : 19;
            Check.refusedText(Check.deskTold(BASE), "money " + name + " rate " + rate + " cut " + cut + ";", error, place);
        }
        Check.refusedText(Check.deskTold(BASE), "party a line 1000001;", 2, 6);
        Check.refusedText(Check.deskTold(BASE), "party m line 1000001;", 2, 6);
        Check.refusedText(Check.deskTold(BASE), "party n line 1000001;", 5, 13);
        Check.refusedText(Check.deskTold(BASE), "party n line 1000000;", 0, -1);
    }

    /** "the sentences are carried out one by one": what stands ahead counts, and its error is told first. */
    private static void sentenceBySentence() {
        text("party a; party a;", 2, 15);
        text("party a; money a rate 1 cut 1;", 2, 15);
        text("money a rate 1 cut 1; party a;", 2, 28);
        text("money a rate 1 cut 1; money a rate 1 cut 1;", 2, 28);
        text("party a; hold 0; party a;", 5, 14);
        text("party a line 1000001; party a;", 5, 13);
        text("party a; pay a to a 1 m on 0; party a;", 6, 18);
        text("pay a to b 1 m on 0; party a; party b; money m rate 1 cut 1;", 3, 4);
        text(BASE + "hold 0; pay a to b 1 m on 0;", 5, BASE.length() + 5);
        text(BASE + "pay a to b 1 m on 0; hold 0; cancel 0;", 0, -1);
        String one = BASE + "pay a to b 1 m on 0; ";
        int at = one.length();
        text(one + "cancel 0; hold 0;", 5, at + 15);
        text(one + "cancel 0; cancel 0;", 5, at + 17);
        text(one + "cancel 0; pay a to b 1 m on 0 for 0;", 5, at + 34);
        text(one + "pay a to b 1 m on 0 for 1;", 5, at + 24);
        text(one + "pay a to b 1 m on 0 for 0; pay a to b 1 m on 0 for 0;", 5, at + 51);
        text(one + "pay a to b 1 m on 0 for 0; pay a to b 1 m on 0 for 1;", 5, at + 51);
        text(one + "pay a to b 1 m on 0 for 0; cancel 1; pay a to b 1 m on 0 for 0;", 0, -1);
        text(one + "pay a to b 1 m on 0 for 0; cancel 0; pay a to b 1 m on 0 for 1;", 0, -1);
        text(one + "party a; x", 1, at + 9);
        // what an earlier text told and a later one adds
        NettingDesk desk = Check.deskTold("party a; money m rate 1 cut 1;");
        Check.refusedText(desk, "pay a to b 1 m on 0;", 3, 9);
        Check.told(desk, "party b;");
        Check.told(desk, "pay a to b 1 m on 0;");
        Check.told(desk, "pay b to a 1 m on 0 for 0;");
        Check.same("told in five texts", desk.payment(0, 5), 1);
    }

    /** "of errors at one token the one with the smallest number": 2 and 4, 3 and 4. */
    private static void smallestNumber() {
        NettingDesk desk = Desks.full();
        Check.refusedText(desk, "party partner0;", 2, 6);
        Check.refusedText(desk, "party dollars4 line 1000001;", 2, 6);
        Check.refusedText(desk, "party x line 1000001;", 4, 6);
        Check.refusedText(desk, "money dollars0 rate 0 cut 0;", 2, 6);
        Check.refusedText(desk, "money partner9 rate 0 cut 0;", 2, 6);
        Check.refusedText(desk, "money x rate 0 cut 0;", 4, 6);
        Check.refusedText(desk, "pay x to y 0 z on 99 for 99;", 3, 4);
        Check.refusedText(desk, "pay dollars0 to y 0 z on 99 for 99;", 3, 4);
        Check.refusedText(desk, "pay partner0 to y 0 z on 99 for 99;", 4, 4);
        Check.refusedText(desk, "pay partner0 to partner0 0 z on 99 for 99;", 4, 4);
        // one that is cancelled still is one of sixty
        Check.told(desk, "cancel 0; cancel 59;");
        Check.refusedText(desk, "pay partner0 to partner1 1 dollars0 on 0;", 4, 4);
    }

    // ---- error 5, on each side of each range

    private static void numbersOfLines() {
        int[] taken = {0, 1, 999999, 1000000};
        for (int line : taken) {
            NettingDesk desk = Check.deskTold("party a line " + line + ";");
            Check.same("line " + line, desk.party(0, 0), line);
        }
        for (int line : new int[] {1000001, 1000002, 9999999}) {
            text("party a line " + line + ";", 5, 13);
        }
        Check.same("without a line", Check.deskTold("party a;").party(0, 0), 0);
    }

    private static void numbersOfMoneys() {
        for (int rate : new int[] {1, 2, 999, 1000}) {
            Check.same("rate " + rate, Check.deskTold("money m rate " + rate + " cut 1;").money(0, 0), rate);
        }
        for (int rate : new int[] {0, 1001, 1002, 9999999}) {
            text("money m rate " + rate + " cut 1;", 5, 13);
        }
        for (int cut : new int[] {1, 2, 22, 23}) {
            Check.same("cut " + cut, Check.deskTold("money m rate 1 cut " + cut + ";").money(0, 1), cut);
        }
        for (int cut : new int[] {0, 24, 25, 9999999}) {
            text("money m rate 1 cut " + cut + ";", 5, 19);
        }
    }

    private static void numbersOfAmounts() {
        for (int amount : new int[] {1, 2, 99999, 100000}) {
            NettingDesk desk = Check.deskTold(BASE + "pay a to b " + amount + " m on 0;");
            Check.same("amount " + amount, desk.payment(0, 2), amount);
        }
        for (int amount : new int[] {0, 100001, 100002, 9999999}) {
            text(BASE + "pay a to b " + amount + " m on 0;", 5, BASE.length() + 11);
        }
    }

    /** "the day today to 30 days later": today is another day later on. */
    private static void numbersOfDays() {
        for (int today = 0; today <= 3; today++) {
            NettingDesk desk = Check.deskTold(BASE);
            if (today > 0) {
                desk.pass(24 * today - 1);
                Check.refusedText(desk, "pay a to b 1 m on " + (today + 30) + ";", 5, 18);
                desk.pass(1);
            }
            for (int day : new int[] {today, today + 1, today + 29, today + 30}) {
                Check.told(desk, "pay a to b 1 m on " + day + ";");
                Check.same("the day " + day, desk.payment(desk.count(2) - 1, 4), day);
            }
            for (int day : new int[] {today + 31, today + 32, 9999999}) {
                Check.refusedText(desk, "pay a to b 1 m on " + day + ";", 5, 18);
            }
            for (int day = 0; day < today; day++) {
                Check.refusedText(desk, "pay a to b 1 m on " + day + ";", 5, 18);
            }
        }
    }

    /** Behind for, hold and cancel: one that waits, and behind for one that has no partner. */
    private static void numbersOfPayments() {
        NettingDesk desk = Check.deskTold("party a line 9; party b; money m rate 100 cut 2; pay a to b 1 m on 0;"
            + "pay b to a 99 m on 0; pay a to b 1 m on 5; cancel 2; pay a to b 1 m on 5; pay a to b 1 m on 6;"
            + "pay b to a 1 m on 7 for 4; pay b to a 1 m on 7; hold 6; pay a to b 1 m on 8;");
        desk.pass(3);
        int[] states = {1, 2, 3, 0, 0, 0, 0, 0};
        boolean[] isLinked = {false, false, false, false, true, true, false, false};
        for (int n = 0; n < 8; n++) {
            Check.same("state of " + n, desk.payment(n, 6), states[n]);
            boolean waits = states[n] == 0;
            Check.refusedText(desk, "hold " + n + "; hold " + n + ";", waits ? 0 : 5, waits ? -1 : 5);
            Check.refusedText(desk, "cancel " + n + "; hold 99;", 5, waits ? 15 : 7);
            Check.refusedText(desk, "pay b to a 1 m on 9 for " + n + "; hold 99;", 5, waits && !isLinked[n] ? 32 : 24);
        }
        for (int n : new int[] {8, 9, 59, 60, 9999999}) {
            Check.refusedText(desk, "hold " + n + ";", 5, 5);
            Check.refusedText(desk, "cancel " + n + ";", 5, 7);
            Check.refusedText(desk, "pay b to a 1 m on 9 for " + n + ";", 5, 24);
        }
        Check.same("payments behind all that", desk.count(2), 8);
        NettingDesk none = Check.deskTold(BASE);
        Check.refusedText(none, "hold 0;", 5, 5);
        Check.refusedText(none, "cancel 0;", 5, 7);
        Check.refusedText(none, "pay a to b 1 m on 0 for 0;", 5, 24);
    }

    /** "the name of the 11th party, or of the 6th money, or the first name of the 61st payment". */
    private static void lastPlaces() {
        StringBuilder parties = new StringBuilder();
        StringBuilder moneys = new StringBuilder();
        StringBuilder payments = new StringBuilder(BASE);
        for (int k = 0; k < 11; k++) {
            text(parties.toString(), 0, -1);
            parties.append("party p").append(k).append(';');
        }
        text(parties.toString(), 4, parties.length() - 4);
        for (int k = 0; k < 6; k++) {
            text(moneys.toString(), 0, -1);
            moneys.append("money m").append(k).append(" rate 1 cut 1;");
        }
        text(moneys.toString(), 4, moneys.length() - 16);
        for (int k = 0; k < 40; k++) {
            payments.append("pay a to b 1 m on 0;");
        }
        NettingDesk desk = Check.deskTold(payments.toString());
        String twenty = "pay a to b 1 m on 0;".repeat(20);
        Check.refusedText(desk, twenty + "pay a to b 1 m on 0;", 4, 404);
        Check.same("forty still", desk.count(2), 40);
        Check.told(desk, twenty);
        Check.same("sixty", desk.count(2), 60);
        Check.refusedText(desk, "pay a to b 1 m on 0;", 4, 4);
        Check.same("sixty still", desk.count(2), 60);
    }
}
