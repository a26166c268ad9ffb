// Boundary cases of what is told: how many, the bounds of numbers, texts and their faults, 1 to 5.
public final class EdgesOfTexts extends Edges {
    private static final String EIGHT = "fan 1 9;".repeat(7) + "fan 1 9";
    private static final String FOUR = "quiet 1 1 1;".repeat(3) + "quiet 1 1 1";

    private static String padded(String text, int length) {
        return text + " ".repeat(length - text.length());
    }

    private static void reads(String text) {
        fault(NONE, text);
    }

    private static void clappers() {
        says("What it is", "8 at most (none at first)");
        WhichEncore x = new WhichEncore();
        due(0, x.count(0), "count(0) at first");
        due(UNKNOWN, x.clapper(0, 0), "clapper(0, 0) at first");
        tell(x, EIGHT);
        due(8, x.count(0), "count(0) of eight");
        due(1, x.clapper(7, 5), "clapper(7, 5), the eighth");
        due(UNKNOWN, x.clapper(8, 5), "clapper(8, 5), a ninth");
        due(255, x.count(8), "count(8) of eight");

        says("What it is", "CLAPPERS are 0, 1 .. as they come");
        x = told("guest 3 9;shouter 4 9");
        tell(x, "sleeper 5 9");
        int[] kinds = {0, 3, 2};
        for (int c = 0; c < 3; c++) {
            due(kinds[c], x.clapper(c, 0), "clapper(" + c + ", 0)");
            due(3 + c, x.clapper(c, 5), "clapper(" + c + ", 5)");
        }
    }

    private static void beside() {
        says("What it is", "BESIDE one are those with the number one less, one more");
        due(0, told("fan 3 9;fan 3 9;fan 0 9").as(1, 2), "as(1, 2): the one less claps");
        due(0, told("fan 0 9;fan 3 9;fan 3 9").as(1, 2), "as(1, 2): the one more claps");
        due(1, told("fan 3 9;fan 0 9;fan 3 9").as(2, 2), "as(2, 2): the one two less claps");
        due(1, told("fan 3 9;fan 0 9;fan 3 9").as(0, 2), "as(0, 2): the one two more claps");
        WhichEncore x = told("fan 3 9;" + "fan 0 9;".repeat(6) + "fan 3 9");
        due(1, x.as(0, 2), "as(0, 2): the last is not beside the first");
        due(1, x.as(7, 2), "as(7, 2): the first is not beside the last");
        x = told("guest 3 9;" + "guest 3 9;".repeat(6) + "guest 0 9");
        due(0, x.as(0, 1), "as(0, 1): beside the first is the second alone");
        x = told("guest 0 9;" + "guest 3 9;".repeat(6) + "guest 3 9");
        due(0, x.as(7, 1), "as(7, 1): beside the last is the seventh alone");
    }

    private static void calls() {
        says("What it is", "An object is used for at most 512 calls after it has been made");
        WhichEncore x = new WhichEncore();
        for (int call = 1; call < 512; call++) {
            due(0, x.does(0), "does(0), call " + call);
        }
        due(60 + 451 * 2, x.count(6), "count(6), call 512");
        x = new WhichEncore();
        for (int round = 0; round < 3; round++) {
            for (int i = 1; i <= 160; i++) {
                due(i, x.write(';'), "write()");
            }
            due(160, x.erase(), "erase()");
        }
        for (int i = 1; i <= 28; i++) {
            due(i, x.write(' '), "write()");
        }
        due(28, x.fault(), "fault(), call 512");
    }

    private static void clapperBounds() {
        says("Terms", "Each is of a KIND, 0 GUEST, 1 FAN, 2 SLEEPER, 3 SHOUTER");
        for (int kind = 0; kind < 4; kind++) {
            due(kind, told(CLAPPER_WORDS[kind] + " 3 9").clapper(0, 0), CLAPPER_WORDS[kind]);
        }
        says("Terms", "of a ZEAL (0 .. 20)");
        for (String word : CLAPPER_WORDS) {
            int at = word.length() + 1;
            due(0, told(word + " 0 9").clapper(0, 5), word + " of zeal 0");
            due(20, told(word + " 20 9").clapper(0, 5), word + " of zeal 20");
            fault(at, word + " 21 9");
            fault(at, word + " 99 9");
            fault(at, word + " -1 9");
        }
        says("Terms", "with a TRAIN (MINUTE 1 .. 99)");
        for (String word : CLAPPER_WORDS) {
            int at = word.length() + 3;
            due(1, told(word + " 3 1").clapper(0, 2), word + " of train 1");
            due(99, told(word + " 3 99").clapper(0, 2), word + " of train 99");
            fault(at, word + " 3 0");
            fault(at, word + " 3 00");
            fault(at, word + " 3 100");
            fault(at, word + " 3 -1");
        }
    }

    private static void encoreBounds() {
        says("Terms", "ENCORES are 0, 1 .. as they come, 4 at most (none at first)");
        WhichEncore x = new WhichEncore();
        due(0, x.count(1), "count(1) at first");
        due(UNKNOWN, x.encore(0, 0), "encore(0, 0) at first");
        tell(x, "known 1 1 1;plain 2 1 1");
        tell(x, "brilliant 3 1 1;quiet 4 1 1");
        due(4, x.count(1), "count(1) of four");
        int[] kinds = {3, 0, 2, 1};
        for (int e = 0; e < 4; e++) {
            due(kinds[e], x.encore(e, 0), "encore(" + e + ", 0)");
            due(e + 1, x.encore(e, 1), "encore(" + e + ", 1)");
        }
        due(UNKNOWN, x.encore(4, 0), "encore(4, 0), a fifth");
        says("Terms", "of a KIND, 0 PLAIN, 1 QUIET, 2 BRILLIANT, 3 KNOWN");
        for (int kind = 0; kind < 4; kind++) {
            due(kind, told(ENCORE_WORDS[kind] + " 1 1 1").encore(0, 0), ENCORE_WORDS[kind]);
        }
        says("Terms", "of MINUTES (1 .. 9)");
        boundsOfEncore(1, 1, 9, "", " 2 2");
        says("Terms", "that take so much ARM (1 .. 9)");
        boundsOfEncore(2, 1, 9, " 2", " 2");
        says("Terms", "of a WORTH (0 .. 30)");
        boundsOfEncore(3, 0, 30, " 2 2", "");
    }

    private static void boundsOfEncore(int what, int low, int high, String ahead, String behind) {
        for (String word : ENCORE_WORDS) {
            String start = word + ahead + " ";
            due(low, told(start + low + behind).encore(0, what), start + low);
            due(high, told(start + high + behind).encore(0, what), start + high);
            fault(start.length(), start + (high + 1) + behind);
            if (low > 0) {
                fault(start.length(), start + (low - 1) + behind);
            }
            fault(start.length(), start + "-1" + behind);
        }
    }

    private static void hallBounds() {
        says("Terms", "ARM is 0 .. 30 (10 at first)");
        due(10, new WhichEncore().count(4), "count(4) at first");
        due(0, told("arm 0").count(4), "arm 0");
        due(30, told("arm 30").count(4), "arm 30");
        fault(4, "arm 31");
        fault(4, "arm -1");
        says("Terms", "the hall CLOSES at a MINUTE (0 .. 99; 60 at first)");
        paidBehindWaits(new WhichEncore(), 60, 60, 62);
        paidBehindWaits(told("close 0"), 0, 0, 2);
        paidBehindWaits(told("close 99"), 99, 99, 101);
        fault(6, "close 100");
        fault(6, "close -1");
        says("Terms", "its HIRE is 0 .. 9 for a MINUTE (1 at first)");
        paidBehindWaits(new WhichEncore(), 1, 1, 2);
        paidBehindWaits(told("hire 0"), 70, 0, 0);
        paidBehindWaits(told("hire 9"), 1, 9, 18);
        fault(5, "hire 10");
        fault(5, "hire -1");
    }

    private static void paidBehindWaits(WhichEncore x, int n, int paid, int paidByOneMore) {
        waits(x, n);
        due(paid, x.count(6), "count(6) at minute " + n);
        waits(x, 1);
        due(paidByOneMore, x.count(6), "count(6) at minute " + (n + 1));
    }

    private static void lengths() {
        says("Terms", "THE TEXT is a row of letters, 160 at most");
        WhichEncore x = new WhichEncore();
        put(x, padded("fan 3 9;arm 7", 160));
        due(160, x.count(12), "count(12) of a full text");
        due(FULL, x.write(' '), "write() on a full text");
        due(NONE, x.fault(), "fault() of a full text");
        due(2, x.hall(), "hall() of a full text");
        fault(160, padded("fan 3 9;arm", 160));
        fault(159, padded("fan 3 9;arm 7", 159) + "x");
        put(x, padded("arm 8", 160) + "x");
        due(NONE, x.fault(), "fault(): the 161st letter is no letter of the text");

        says("Terms", "CLAUSES with ; between, 14 at most");
        reads("hall");
        due(14, tellCounted("hall;".repeat(13) + "hall"), "hall() of 14 clauses");
        fault(69, "hall;".repeat(14) + "hall");
        fault(69, "hall;".repeat(14) + "hall;hall");
        fault(69, "hall;".repeat(14));
        fault(69, "hall;".repeat(14) + ";");
        fault(70, "hall;".repeat(13) + "hall hall");
        fault(0, ";hall");
        fault(5, "hall;;hall");
        fault(5, "hall;");
        fault(5, "hall hall");
        fault(4, "hall,hall");
    }

    private static int tellCounted(String text) {
        WhichEncore x = new WhichEncore();
        put(x, text);
        return x.hall();
    }

    private static void words() {
        says("Terms", "each is one of: hall. guest Z T. fan Z T. sleeper Z T. shouter Z T. plain M A W. quiet M A W. brilliant M A W. known M A W. arm A. close M. hire H. empty.");
        String[] clauses = {
            "hall", "guest 1 1", "fan 1 1", "sleeper 1 1", "shouter 1 1", "plain 1 1 1", "quiet 1 1 1",
            "brilliant 1 1 1", "known 1 1 1", "arm 1", "close 1", "hire 1", "empty"};
        for (String clause : clauses) {
            reads(clause);
            fault(clause.length() + 1, clause + " 1");
            if (clause.contains(" ")) {
                int last = clause.lastIndexOf(' ');
                fault(last, clause.substring(0, last));
            }
        }
        says("Terms", "As written here, without points");
        for (String clause : clauses) {
            fault(clause.length(), clause + ".");
            fault(0, Character.toUpperCase(clause.charAt(0)) + clause.substring(1));
            fault(0, "x" + clause);
            String word = clause.split(" ")[0];
            fault(0, word.substring(0, word.length() - 1) + clause.substring(word.length()));
            fault(0, word + "s" + clause.substring(word.length()));
            for (int i = 0; i < word.length(); i++) {
                fault(0, clause.substring(0, i) + "x" + clause.substring(i + 1));
            }
        }
        says("Terms", "hall: all as at first");
        WhichEncore x = told("fan 3 9;known 1 1 1;arm 7;close 0;hire 9");
        tell(x, "hall");
        counts(x, 0, 0, 0, 0, 10, 0, 0, 0, 0, 0, 0, 0, 0);
        paidBehindWaits(x, 60, 60, 62);
        tell(x, "fan 3 9;hall;fan 4 9");
        due(1, x.count(0), "count(0): hall, and one behind it");
        due(4, x.clapper(0, 5), "clapper(0, 5): hall, and one behind it");
        says("Terms", "empty: no CLAPPERS");
        x = told("fan 3 9;known 1 1 1;arm 7;close 0;hire 9");
        tell(x, "empty");
        counts(x, 0, 1, 0, 0, 7, 0, 0, 0, 0, 0, 0, 0, 0);
        paidBehindWaits(x, 0, 0, 18);
        tell(x, "empty");
        due(0, x.count(0), "count(0): empty, with nobody there");
        says("Terms", "what earlier texts told stays");
        x = told("fan 3 9;known 1 1 1;arm 7;close 0;hire 9");
        tell(x, "guest 5 9");
        tell(x, "plain 2 2 2");
        counts(x, 2, 2, 0, 8, 7, 0, 0, 0, 3, 0, 0, 0, 0);
        paidBehindWaits(x, 0, 0, 18);
    }

    private static void fullHall() {
        says("Terms", "a ninth cannot stand there (at its word)");
        for (String word : CLAPPER_WORDS) {
            fault(64, EIGHT + ";" + word + " 1 1");
            fault(64, EIGHT + ";" + word);
            fault(64, EIGHT + ";" + word + " 99 0");
            faultAfter(told(EIGHT), 0, word + " 1 1");
            faultAfter(told(EIGHT), 6, "arm 1;" + word + " 1 1");
        }
        faultAfter(told("fan 1 9"), NONE, EIGHT.substring(8));
        faultAfter(told("fan 1 9"), 56, EIGHT);
        faultAfter(told(EIGHT), NONE, "empty;" + EIGHT);
        faultAfter(told(EIGHT), NONE, "hall;" + EIGHT);
        faultAfter(told(EIGHT), 70, "empty;" + EIGHT + ";fan 1 1");
        faultAfter(told(EIGHT), NONE, "plain 1 1 1;arm 1;close 1;hire 1");
        says("Terms", "a fifth cannot stand there");
        for (String word : ENCORE_WORDS) {
            fault(48, FOUR + ";" + word + " 1 1 1");
            fault(48, FOUR + ";" + word);
            fault(48, FOUR + ";" + word + " 0 0 99");
            faultAfter(told(FOUR), 0, word + " 1 1 1");
            faultAfter(told(FOUR), 6, "empty;" + word + " 1 1 1");
        }
        faultAfter(told("plain 1 1 1"), NONE, FOUR.substring(12));
        faultAfter(told("plain 1 1 1"), 36, FOUR);
        faultAfter(told(FOUR), NONE, "hall;" + FOUR);
        faultAfter(told(FOUR), 53, "hall;" + FOUR + ";known 1 1 1");
        faultAfter(told(FOUR), NONE, "fan 1 1;arm 1;close 1;hire 1;empty");
    }

    private static void tokens() {
        says("Terms", "small letters a .. z");
        fault(0, "halla");
        fault(0, "hallz");
        fault(0, "ahall");
        fault(0, "zhall");
        fault(4, "hall`");
        fault(4, "hall{");
        fault(4, "hallA");
        fault(4, "hall" + (char) 228);
        says("Terms", "numbers of 1 or 2 digits");
        due(7, told("arm 7").count(4), "arm 7");
        due(7, told("arm 07").count(4), "arm 07");
        due(0, told("arm 00").count(4), "arm 00");
        fault(4, "arm 007");
        fault(4, "arm 000");
        fault(4, "arm " + "9".repeat(156));
        fault(4, "arm " + "4294967303");
        fault(5, "arm 7/");
        fault(5, "arm 7:");
        fault(4, "arm /");
        fault(4, "arm :");
        fault(4, "arm seven");
        says("Terms", "blanks between");
        reads("   guest   3   9   ;   empty   ");
        reads("guest3 9;empty");
        fault(7, "guest12");
        fault(7, "guest 3x9");
        fault(0, "gu est 3 9");
        for (int other : new int[] {0, 9, 10, 13, 31, 33, 95, 127, 160, 255}) {
            fault(5, "guest" + (char) other + "3 9");
        }
    }

    private static void faults() {
        says("Terms", "A FAULT is at the first TOKEN");
        fault(0, "bravo;guest 21");
        fault(6, "guest 21 0;bravo");
        fault(12, "guest 20 99;gast 1 1;guest 21");
        fault(19, "guest 20 99;fan 20 ;fan");
        says("Terms", "(a row of small letters, a row of digits, any other letter) that cannot stand there");
        fault(5, "hall bravo");
        fault(5, "hall 123");
        fault(5, "hall ??");
        fault(7, "hall   " + (char) 255);
        fault(4, "hall5");
        says("Terms", "(a number out of its bounds, of more digits, also)");
        fault(6, "guest 21 9");
        fault(6, "guest 020 9");
        fault(8, "guest 3 0");
        fault(8, "guest 3 099");
        says("Terms", "or at the end, if it comes too soon");
        String full = "known 9 8 7";
        for (int end = 0; end < full.length(); end++) {
            String cut = full.substring(0, end);
            boolean inWord = end > 0 && end < 5;
            fault(inWord ? 0 : end, cut);
            if (!inWord) {
                fault(end + 2, cut + "  ");
            }
        }
        fault(0, "");
        fault(1, " ");
        fault(160, " ".repeat(160));
        fault(6, "hall; ");
        fault(7, "guest 3;fan 3 9");
        says("Terms", "CLAUSES are done in their order");
        due(4, told("arm 3;arm 4").count(4), "count(4): the last is done last");
        due(0, told("fan 3 9;empty").count(0), "count(0): empty is last");
        due(1, told("empty;fan 3 9").count(0), "count(0): empty is first");
        due(10, told("arm 3;hall").count(4), "count(4): hall is last");
        due(3, told("hall;arm 3").count(4), "count(4): hall is first");
    }

    private static void anew() {
        WhichEncore x = told("fan 9 2;fan 9 99;plain 3 4 5;arm 9;hire 2");
        does(x, 0, 1, 2);
        x.keep(0);
        x.keep(1);
        x.row(0);
        counts(x, 2, 1, 4, 15, 5, 1, 8, 5, 2, 1, 1, 3, 0);
        tell(x, "close 50");
        says("Terms", "Behind them it is MINUTE 0");
        due(0, x.count(2), "count(2)");
        says("Terms", "all are there with their ZEAL");
        due(3, x.count(8), "count(8)");
        due(9, x.clapper(0, 1), "clapper(0, 1)");
        due(9, x.clapper(1, 1), "clapper(1, 1)");
        says("Terms", "ARM is whole");
        due(9, x.count(4), "count(4)");
        says("Terms", "nothing was played");
        due(0, x.count(9), "count(9)");
        due(0, x.encore(0, 4), "encore(0, 4)");
        due(1, x.can(2), "can(2)");
        says("Terms", "no BOWS were");
        due(0, x.count(5), "count(5)");
        says("Terms", "nothing is paid");
        due(0, x.count(6), "count(6)");
        says("Terms", "FAME is 0");
        due(0, x.count(7), "count(7)");
        says("Terms", "THE ROW is empty");
        due(0, x.count(10), "count(10)");
        due(0, x.tear(), "tear()");
        says("Terms", "nothing is kept or can be undone");
        due(0, x.count(11), "count(11)");
        due(NOT, x.undo(), "undo()");
        due(NOT, x.back(0), "back(0)");
        due(NOT, x.back(1), "back(1)");
    }

    private static void newObject() {
        says("1", "Nobody, nothing prepared.");
        WhichEncore x = new WhichEncore();
        counts(x, 0, 0, 0, 0, 10, 0, 0, 0, 0, 0, 0, 0, 0);
        due(UNKNOWN, x.clapper(0, 0), "clapper(0, 0)");
        due(UNKNOWN, x.encore(0, 0), "encore(0, 0)");
        due(NOT, x.undo(), "undo()");
        due(NOT, x.back(0), "back(0)");
        due(NOT, x.back(1), "back(1)");
    }

    private static void write() {
        says("2", "A letter (its number, 0 .. 255) more of THE TEXT: how many it has. OUTSIDE; FULL.");
        WhichEncore x = new WhichEncore();
        due(1, x.write(0), "write(0)");
        due(2, x.write(255), "write(255)");
        for (int letter : new int[] {-1, 256, LEAST, MOST}) {
            due(OUTSIDE, x.write(letter), "write(" + letter + ")");
        }
        due(2, x.count(12), "count(12) behind refused letters");
        put(x, "x".repeat(157));
        due(160, x.write('x'), "write() of the 160th");
        due(FULL, x.write('x'), "write() of a 161st");
        due(FULL, x.write(0), "write(0) of a 161st");
        for (int letter : new int[] {-1, 256, LEAST, MOST}) {
            due(OUTSIDE, x.write(letter), "write(" + letter + ") of a 161st");
        }
        due(160, x.count(12), "count(12) behind refused letters");
        x = new WhichEncore();
        for (int letter = 0; letter <= 255; letter++) {
            due(letter % 128 + 1, x.write(letter), "write(" + letter + ")");
            if (letter == 127) {
                x.erase();
            }
        }
    }

    private static void erase() {
        says("3", "THE TEXT is empty: how many letters it had.");
        WhichEncore x = new WhichEncore();
        due(0, x.erase(), "erase() of an empty text");
        x.write('h');
        due(1, x.erase(), "erase() of one letter");
        due(0, x.erase(), "erase() again");
        put(x, "x".repeat(161));
        due(160, x.erase(), "erase() of a full text");
        due(0, x.count(12), "count(12)");
        put(x, "hall");
        due(NONE, x.fault(), "fault(): of the erased letters none is left");
    }

    private static void fault() {
        says("4", "(the letter with which the TOKEN begins, or the length)");
        fault(0, "halls");
        fault(5, "hall;halls");
        fault(159, padded("hall;", 159) + "h");
        fault(160, padded("hall;", 160));
        fault(0, "");
        says("4", "; NONE.");
        reads("hall");
        reads(padded("hall", 160));
        WhichEncore x = new WhichEncore();
        put(x, "arm 3");
        due(NONE, x.fault(), "fault()");
        due(NONE, x.fault(), "fault() again");
        due(10, x.count(4), "count(4): a text that is read is not done");
        put(x, ";fan 3 9");
        due(NONE, x.fault(), "fault() of a longer text");
        due(NONE, x.fault(), "fault() of it again");
        due(2, x.hall(), "hall()");
        due(1, x.count(0), "count(0): a text read three times is done once");
    }

    private static void hall() {
        says("5", "THE TEXT's CLAUSES are done, and it is empty then: how many there were.");
        WhichEncore x = new WhichEncore();
        put(x, "arm 3");
        due(1, x.hall(), "hall() of one clause");
        due(0, x.count(12), "count(12)");
        put(x, "arm 4;".repeat(13) + "arm 5");
        due(14, x.hall(), "hall() of 14 clauses");
        due(0, x.count(12), "count(12)");
        due(5, x.count(4), "count(4)");
        says("5", "NOT: it has a FAULT.");
        due(NOT, x.hall(), "hall() of an empty text");
        put(x, "arm 6;arm 31");
        due(NOT, x.hall(), "hall() of a text with a fault");
        due(12, x.count(12), "count(12): the text stays");
        due(5, x.count(4), "count(4): no clause is done, not the first either");
        due(10, x.fault(), "fault(): the text stays");
        x.erase();
        put(x, "fan 3 9");
        due(1, x.hall(), "hall() of another text");
        due(5, x.count(4), "count(4): of the text with a fault nothing is left");
    }

    public static void main(String[] args) {
        clappers();
        beside();
        calls();
        clapperBounds();
        encoreBounds();
        hallBounds();
        lengths();
        words();
        fullHall();
        tokens();
        faults();
        anew();
        newObject();
        write();
        erase();
        fault();
        hall();
        finish();
    }
}
