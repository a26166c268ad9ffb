// The document's promises one by one: ordinary calls, edges, and what is refused.
public final class Promises extends Checks {
    private static void newObject() {
        WhichEncore x = new WhichEncore();
        counts(x, 0, 0, 0, 0, 10, 0, 0, 0, 0, 0, 0, 0, 0);
        does(x, 0);
        due(1, x.count(6), "count(6): hire is 1 at first");
        for (int i = 1; i < 60; i++) {
            does(x, 0);
        }
        due(60, x.count(6), "count(6) up to the closing minute");
        does(x, 0);
        due(62, x.count(6), "count(6) behind the closing minute");
    }

    private static void write() {
        WhichEncore x = new WhichEncore();
        due(1, x.write(0), "write(0)");
        due(2, x.write(255), "write(255)");
        String before = state(x);
        due(OUTSIDE, x.write(-1), "write(-1)");
        due(OUTSIDE, x.write(256), "write(256)");
        same(before, x, "write(256)");
        for (int i = 3; i <= 160; i++) {
            due(i, x.write('a'), "write()");
        }
        due(FULL, x.write('a'), "write() on 160 letters");
        due(OUTSIDE, x.write(256), "write(256) on 160 letters");
        due(160, x.count(12), "count(12)");
        due(160, x.erase(), "erase()");
        due(1, x.write('a'), "write() again");
    }

    private static void erase() {
        WhichEncore x = told("fan 3 9");
        due(0, x.erase(), "erase() of nothing");
        put(x, "hall");
        due(4, x.erase(), "erase()");
        due(0, x.count(12), "count(12)");
        due(0, x.fault(), "fault() then");
        due(1, x.count(0), "count(0): what was told stays");
    }

    private static void fault() {
        fault(0, "");
        fault(3, "   ");
        fault(0, ";");
        fault(0, "5");
        fault(0, "Hall");
        fault(0, "hal");
        fault(0, "halls");
        fault(NONE, "hall");
        fault(NONE, "  hall  ");
        fault(5, "hall 1");
        fault(5, "hall hall");
        fault(5, "hall;");
        fault(7, "hall;  ");
        fault(5, "hall;;hall");
        fault(4, "hall.");
        fault(4, "hall\t;hall");
        fault(NONE, "hall ; empty");
        fault(5, "guest");
        fault(6, "guest ");
        fault(5, "guest;");
        fault(6, "guest x");
        fault(NONE, "guest 0 1");
        fault(NONE, "guest 20 99");
        fault(NONE, "guest 00 01");
        fault(NONE, "guest5 9");
        fault(NONE, "guest  5   9");
        fault(6, "guest 21 1");
        fault(6, "guest 020 1");
        fault(8, "guest 1 0");
        fault(8, "guest 1 100");
        fault(8, "guest 1 001");
        fault(10, "guest 1 1 1");
        fault(9, "guest 1 1x");
        fault(6, "guest -1 1");
        fault(7, "guest 1;");
        for (String word : new String[] {"fan", "sleeper", "shouter"}) {
            int at = word.length() + 1;
            fault(NONE, word + " 20 99");
            fault(at, word + " 21 9");
            fault(at + 2, word + " 9 0");
        }
        for (String word : new String[] {"plain", "quiet", "brilliant", "known"}) {
            int at = word.length() + 1;
            fault(NONE, word + " 1 1 0");
            fault(NONE, word + " 9 9 30");
            fault(at, word + " 0 1 1");
            fault(at, word + " 10 1 1");
            fault(at + 2, word + " 1 0 1");
            fault(at + 2, word + " 1 10 1");
            fault(at + 4, word + " 1 1 31");
            fault(at + 3, word + " 1 1");
        }
        fault(NONE, "arm 0");
        fault(NONE, "arm 30");
        fault(4, "arm 31");
        fault(NONE, "close 0");
        fault(NONE, "close 99");
        fault(6, "close 100");
        fault(NONE, "hire 0");
        fault(NONE, "hire 9");
        fault(5, "hire 10");
        faultsOfLimits();
    }

    private static void faultsOfLimits() {
        String eight = "fan 1 1;".repeat(8);
        fault(NONE, eight + "arm 3");
        fault(64, eight + "fan 1 1");
        fault(64, eight + "guest 99");
        fault(NONE, eight + "empty;fan 1 1");
        fault(NONE, eight + "hall;fan 1 1");
        String four = "plain 1 1 1;".repeat(4);
        fault(NONE, four + "arm 3");
        fault(48, four + "quiet 1 1 1");
        fault(54, four + "empty;known 1 1 1");
        fault(NONE, four + "hall;known 1 1 1");
        fault(NONE, "hall;".repeat(13) + "hall");
        fault(69, "hall;".repeat(14) + "hall");
        fault(69, "hall;".repeat(14));
        faultAfter(fullHall(), 0, "shouter 1 1");
        faultAfter(fullHall(), 6, "arm 5;shouter 1 1");
        faultAfter(fullHall(), 0, "known 1 1 1");
        faultAfter(fullHall(), NONE, "empty;shouter 1 1");
    }

    private static WhichEncore fullHall() {
        WhichEncore x = told("fan 1 1;".repeat(8) + "arm 3");
        tell(x, "plain 1 1 1;".repeat(4) + "arm 3");
        return x;
    }

    private static void hall() {
        WhichEncore x = new WhichEncore();
        due(NOT, x.hall(), "hall() of no text");
        put(x, "guest 5 9;plain 3 4 5;arm 7");
        due(3, x.hall(), "hall()");
        due(0, x.count(12), "count(12)");
        due(7, x.count(4), "count(4)");
        does(x, 1, 2, 0);
        x.keep(0);
        x.row(0);
        put(x, "fan 6 20");
        due(1, x.hall(), "hall() again");
        counts(x, 2, 1, 0, 11, 7, 0, 0, 0, 3, 0, 0, 0, 0);
        due(NOT, x.undo(), "undo() behind a text");
        due(NOT, x.back(0), "back(0) behind a text");
        tell(x, "empty");
        due(0, x.count(0), "count(0) of empty");
        due(1, x.count(1), "count(1) of empty");
        due(7, x.count(4), "count(4) of empty");
        tell(x, "hire 9;close 0;hall");
        due(0, x.count(1), "count(1) of hall");
        due(10, x.count(4), "count(4) of hall");
        does(x, 0);
        due(1, x.count(6), "count(6): hire and closing as at first");
        tell(x, "arm 3;arm 4;fan 1 1;empty;guest 2 2");
        due(4, x.count(4), "count(4): clauses in their order");
        due(1, x.count(0), "count(0): clauses in their order");
        due(0, x.clapper(0, 0), "clapper(0, 0): clauses in their order");
    }

    private static void clapper() {
        WhichEncore x = told("guest 5 2;fan 0 20;sleeper 9 99;shouter 20 3");
        int[][] want = {{0, 5, 2, 1, 1, 5}, {1, 0, 20, 1, 0, 0}, {2, 9, 99, 1, 1, 9}, {3, 20, 3, 1, 1, 20}};
        for (int c = 0; c < 4; c++) {
            for (int what = 0; what <= 5; what++) {
                due(want[c][what], x.clapper(c, what), "clapper(" + c + ", " + what + ")");
            }
        }
        does(x, 0, 0);
        due(3, x.clapper(0, 1), "clapper(0, 1) of one who is gone");
        due(0, x.clapper(0, 3), "clapper(0, 3) of one who is gone");
        due(0, x.clapper(0, 4), "clapper(0, 4) of one who is gone");
        due(5, x.clapper(0, 5), "clapper(0, 5)");
        due(UNKNOWN, x.clapper(4, 0), "clapper(4, 0)");
        due(UNKNOWN, x.clapper(-1, 9), "clapper(-1, 9)");
        due(OUTSIDE, x.clapper(3, 6), "clapper(3, 6)");
        due(OUTSIDE, x.clapper(3, -1), "clapper(3, -1)");
    }

    private static void encore() {
        WhichEncore x = told("guest 5 99;plain 3 4 5;quiet 5 3 9;brilliant 4 6 7;known 2 2 30");
        int[][] want = {{0, 3, 4, 5, 0}, {1, 5, 3, 9, 0}, {2, 4, 6, 7, 0}, {3, 2, 2, 30, 0}};
        for (int e = 0; e < 4; e++) {
            for (int what = 0; what <= 4; what++) {
                due(want[e][what], x.encore(e, what), "encore(" + e + ", " + what + ")");
            }
        }
        does(x, 3);
        due(1, x.encore(1, 4), "encore(1, 4) behind it");
        due(0, x.encore(0, 4), "encore(0, 4)");
        due(UNKNOWN, x.encore(4, 0), "encore(4, 0)");
        due(UNKNOWN, x.encore(-1, 5), "encore(-1, 5)");
        due(OUTSIDE, x.encore(0, 5), "encore(0, 5)");
        due(OUTSIDE, x.encore(0, -1), "encore(0, -1)");
    }

    private static void as() {
        WhichEncore x = told("guest 5 9;fan 6 20;sleeper 1 99;shouter 3 99;guest 0 9;guest 4 7;known 1 1 1");
        int[][] want = {
            {0, 0, NOT, NOT, NOT}, {0, 0, 0, NOT, NOT}, {1, NOT, NOT, 1, NOT}, {0, 0, 0, NOT, 0},
            {0, 0, NOT, NOT, NOT}, {1, 1, NOT, NOT, NOT}};
        for (int c = 0; c < 6; c++) {
            for (int kind = 0; kind <= 4; kind++) {
                due(want[c][kind], x.as(c, kind), "as(" + c + ", " + kind + ")");
            }
        }
        does(x, 2);
        due(1, x.as(3, 4), "as(3, 4) behind the known one");
        due(1, x.as(3, 0), "as(3, 0) behind the known one");
        due(UNKNOWN, x.as(6, 0), "as(6, 0)");
        due(UNKNOWN, x.as(-1, 7), "as(-1, 7)");
        due(OUTSIDE, x.as(0, 5), "as(0, 5)");
        due(OUTSIDE, x.as(0, -1), "as(0, -1)");
        due(1, told("guest 5 9").as(0, 1), "as(0, 1) of one alone");
        due(1, told("fan 5 9").as(0, 2), "as(0, 2) of one alone");
        due(2, told("sleeper 5 9").as(0, 3), "as(0, 3)");
        due(1, told("guest 5 9;guest 0 9").as(0, 1), "as(0, 1) beside one who does not clap");
        due(1, told("guest 0 9;guest 5 9;guest 5 9").as(1, 1), "as(1, 1) beside one who does not clap");
        due(0, told("guest 0 9;fan 5 9;guest 5 9").as(1, 2), "as(1, 2) beside one who claps");
        x = told("guest 9 1;guest 9 9;guest 9 9");
        due(0, x.as(1, 1), "as(1, 1)");
        does(x, 0);
        due(1, x.as(1, 1), "as(1, 1) beside one who is gone");
        due(0, x.as(0, 1), "as(0, 1) of one who is gone");
    }

    private static void encoreAs() {
        WhichEncore x = told("plain 3 4 5;quiet 5 3 9;brilliant 4 6 7;known 2 2 30");
        int[][] want = {
            {9, 9, NOT, NOT, NOT}, {3, NOT, 3, NOT, NOT}, {12, 12, NOT, 12, NOT}, {9, 9, NOT, 9, 9}};
        for (int e = 0; e < 4; e++) {
            for (int kind = 0; kind <= 4; kind++) {
                due(want[e][kind], x.encoreAs(e, kind), "encoreAs(" + e + ", " + kind + ")");
            }
        }
        due(UNKNOWN, x.encoreAs(4, 0), "encoreAs(4, 0)");
        due(UNKNOWN, x.encoreAs(-1, 5), "encoreAs(-1, 5)");
        due(OUTSIDE, x.encoreAs(0, 5), "encoreAs(0, 5)");
        due(OUTSIDE, x.encoreAs(1, -1), "encoreAs(1, -1)");
    }

    private static void can() {
        WhichEncore x = told("sleeper 2 99;plain 1 9 5;quiet 1 2 9;arm 10");
        int[] want = {1, 1, 1, 1, UNKNOWN, UNKNOWN, OUTSIDE};
        for (int step = 0; step < want.length; step++) {
            due(want[step], x.can(step), "can(" + step + ")");
        }
        due(OUTSIDE, x.can(-1), "can(-1)");
        does(x, 2);
        due(0, x.can(2), "can(2): it was played");
        due(0, x.can(3), "can(3): too little arm");
        due(1, x.can(1), "can(1)");
        does(x, 0, 0);
        due(0, x.can(1), "can(1): no noise");
        due(1, x.can(0), "can(0): no noise");
        x = told("sleeper 0 99;plain 1 9 5");
        due(0, x.can(2), "can(2): no noise");
        x = told("fan 1 99;plain 1 9 5;arm 9");
        due(1, x.can(2), "can(2): just enough arm");
    }

    private static void does() {
        WhichEncore x = told("guest 5 9;fan 6 20;sleeper 9 99;shouter 3 99;guest 4 7");
        tell(x, "plain 3 4 5;quiet 5 3 9;brilliant 4 6 7;known 2 2 4;arm 14;close 4;hire 3");
        due(25, x.does(0), "does(0)");
        due(45, x.does(1), "does(1)");
        due(55, x.does(2), "does(2)");
        due(4, x.count(2), "count(2)");
        due(12, x.count(6), "count(6)");
        due(25, x.count(7), "count(7)");
        due(10, x.count(4), "count(4)");
        due(1, x.count(9), "count(9)");
        due(6 + 6 + 4, x.does(3), "does(3): two have gone meanwhile");
        due(9, x.count(2), "count(2)");
        due(42, x.count(6), "count(6)");
        due(14, x.count(8), "count(8)");
        due(25 + 27, x.count(7), "count(7)");
        due(6 + 9 + 3, x.does(5), "does(5): as they came");
        due(18, x.does(1), "does(1) behind the known one");
        due(2, x.count(5), "count(5)");
        due(15, x.does(0), "does(0) behind the known one");
        due(6, x.clapper(1, 1), "clapper(1, 1)");
        due(7, x.clapper(2, 1), "clapper(2, 1)");
        due(2, x.clapper(3, 1), "clapper(3, 1)");
        String before = state(x);
        due(NOT, x.does(5), "does(5) again");
        due(NOT, x.does(4), "does(4): too little arm");
        due(OUTSIDE, x.does(6), "does(6)");
        due(OUTSIDE, x.does(-1), "does(-1)");
        same(before, x, "does() refused");
        zealBehindSteps();
    }

    private static void zealBehindSteps() {
        WhichEncore x = told("fan 20 99;fan 20 99;sleeper 0 99;plain 1 1 1;brilliant 1 1 1;quiet 1 1 1;known 1 1 1;arm 30");
        int[] bows = {48, 54, 58, 60, 60};
        for (int noise : bows) {
            due(noise, x.does(1), "does(1)");
        }
        due(5, x.count(5), "count(5)");
        due(64, x.does(2), "does(2): the third has no zeal");
        due(74 + 5, x.does(3), "does(3): all who are there");
        due(5, x.clapper(2, 1), "clapper(2, 1)");
        due(18 + 18 + 2, x.does(4), "does(4): half, cut");
        due(40, x.does(5), "does(5): as they came");
        due(0, x.clapper(2, 1), "clapper(2, 1) as he came");
        x = told("fan 20 99;sleeper 0 99;brilliant 1 1 1;brilliant 1 1 1;brilliant 1 1 1;plain 1 1 1;arm 30");
        does(x, 1, 1, 1, 1, 2);
        due(35, x.clapper(0, 1), "clapper(0, 1)");
        does(x, 3);
        due(40, x.clapper(0, 1), "clapper(0, 1)");
        does(x, 4);
        due(40, x.clapper(0, 1), "clapper(0, 1): 40 at most");
        does(x, 5);
        due(40, x.clapper(0, 1), "clapper(0, 1): 40 at most");
        due(17, x.clapper(1, 1), "clapper(1, 1)");
        x = told("guest 1 99;guest 2 99;guest 2 99;fan 1 99");
        due(6, x.does(0), "does(0): all clap, none has less");
        x = told("sleeper 2 99;guest 3 99;fan 3 99");
        due(6, x.does(0), "does(0): all at once, as they were");
        due(5, x.does(0), "does(0): one beside him claps no more");
        x = told("fan 9 3;fan 9 4;plain 3 1 7;hire 0");
        due(11, x.does(2), "does(2): one leaves in it");
        due(7, x.count(7), "count(7): one is there then");
        due(9, x.clapper(0, 1), "clapper(0, 1): who is gone hears nothing");
        x = told("fan 9 3;plain 3 1 7");
        due(0, x.does(2), "does(2): all leave in it");
        due(0, x.count(7), "count(7): nobody is there then");
    }

    private static void undo() {
        WhichEncore x = told("fan 9 3;shouter 9 99;plain 3 1 7;known 1 1 9");
        due(NOT, x.undo(), "undo() of nothing");
        String first = state(x);
        does(x, 0);
        String second = state(x);
        does(x, 1);
        String third = state(x);
        does(x, 2);
        x.does(2);
        due(2, x.undo(), "undo()");
        same(third, x, "undo()");
        due(1, x.undo(), "undo()");
        same(second, x, "undo()");
        due(0, x.undo(), "undo()");
        same(first, x, "undo()");
        due(NOT, x.undo(), "undo() of nothing more");
        same(first, x, "undo()");
        for (int i = 0; i < 11; i++) {
            does(x, 0);
        }
        due(8, x.count(11), "count(11)");
        for (int i = 7; i >= 0; i--) {
            due(i, x.undo(), "undo()");
        }
        due(3, x.count(2), "count(2): the last 8 can be undone");
        due(NOT, x.undo(), "undo() of the ninth");
        does(x, 0);
        due(1, x.count(11), "count(11)");
        x.row(0);
        put(x, "ab");
        x.undo();
        due(1, x.count(10), "count(10): the row stays");
        due(2, x.count(12), "count(12): the text stays");
    }

    private static void keepAndBack() {
        about("promise 13");
        WhichEncore x = told("fan 9 3;shouter 9 99;plain 3 1 7;known 1 1 9");
        does(x, 0, 1);
        due(1, x.keep(0), "keep(0)");
        due(2, x.count(11), "count(11): steps can be undone yet");
        String before = state(x);
        due(UNKNOWN, x.keep(2), "keep(2)");
        due(UNKNOWN, x.keep(-1), "keep(-1)");
        same(before, x, "keep(2)");
        does(x, 2, 3);
        due(5, x.keep(1), "keep(1)");
        about("promise 14");
        due(UNKNOWN, x.back(2), "back(2)");
        due(UNKNOWN, x.back(-1), "back(-1)");
        x.row(1);
        due(1, x.back(0), "back(0)");
        counts(x, 2, 2, 1, 9 + 9 + 8, 10, 1, 1, 0, 3, 0, 1, 0, 0);
        due(NOT, x.undo(), "undo() behind back(0)");
        due(5, x.back(1), "back(1)");
        due(3, x.count(9), "count(9)");
        due(1, x.back(0), "back(0) again");
        does(x, 0, 0);
        due(3, x.keep(0), "keep(0) anew");
        does(x, 0);
        due(3, x.back(0), "back(0)");
        tell(x, "arm 4");
        due(NOT, x.back(0), "back(0) behind a text");
        due(NOT, x.back(1), "back(1) behind a text");
        due(0, x.keep(1), "keep(1)");
        due(NOT, x.back(0), "back(0): only the other was kept");
        put(x, "bravo");
        x.hall();
        due(0, x.back(1), "back(1) behind a text with a fault");
    }

    private static void tillThereSound() {
        WhichEncore x = told("guest 5 9;fan 6 4;sleeper 9 99;shouter 3 7;guest 4 2");
        String before = state(x);
        about("promise 16");
        due(31, x.there(0), "there(0)");
        due(31, x.there(1), "there(1)");
        due(15, x.there(2), "there(2)");
        due(13, x.there(4), "there(4)");
        due(4, x.there(9), "there(9)");
        due(4, x.there(98), "there(98)");
        due(0, x.there(99), "there(99)");
        due(OUTSIDE, x.there(100), "there(100)");
        due(OUTSIDE, x.there(-1), "there(-1)");
        about("promise 17");
        due(27, x.sound(0), "sound(0)");
        due(25, x.sound(1), "sound(1)");
        due(5 + 6 + 5 + 3, x.sound(2), "sound(2)");
        due(5 + 6 + 3 + 3, x.sound(3), "sound(3)");
        due(5 + 1 + 3, x.sound(4), "sound(4)");
        due(4 + 3, x.sound(5), "sound(5)");
        due(OUTSIDE, x.sound(100), "sound(100)");
        due(OUTSIDE, x.sound(-1), "sound(-1)");
        about("promise 15");
        due(9, x.till(), "till()");
        same(before, x, "till()");
        due(99, told("shouter 1 99").till(), "till() of a shouter");
        due(3, told("guest 3 99").till(), "till() of a guest alone");
        due(0, told("guest 0 99").till(), "till() of one who does not clap");
        x = told("shouter 5 99;known 1 1 1");
        does(x, 2);
        due(5, x.till(), "till() behind the known one");
        x = told("shouter 5 99");
        does(x, 0, 0);
        due(97, x.till(), "till() at minute 2");
        due(1, x.there(96), "there(96) at minute 2");
        due(0, x.there(97), "there(97) at minute 2");
    }

    private static void best() {
        WhichEncore x = told("fan 9 99;fan 9 99;plain 3 4 5;quiet 5 3 9;brilliant 4 6 7;known 2 2 4;arm 14");
        String before = state(x);
        best(x, 7 + 13 + 10, 2, 3, 4);
        same(before, x, "best()");
        due(NONE, x.best(1000), "best(1000)");
        due(OUTSIDE, x.best(-2), "best(-2)");
        best(new WhichEncore(), 0);
        best(told("fan 9 99;plain 1 1 1;hire 1"), 0);
        best(told("fan 9 99;plain 1 1 2;hire 9"), 0);
        best(told("fan 9 99;plain 1 1 3;hire 1;close 0"), 1, 2);
        best(told("fan 0 99;plain 1 1 30"), 0);
        best(told("fan 9 99;plain 1 9 30;quiet 1 9 30;arm 8"), 0);
        best(told("fan 9 99;plain 1 9 30;quiet 1 9 30;arm 9"), 29, 2);
        best(told("fan 1 99;quiet 1 1 9;quiet 1 1 9"), 16, 1, 2, 3);
        best(told("fan 1 99;quiet 1 1 9;plain 1 1 9"), 16, 3, 2);
        best(told("fan 9 9;fan 9 99;plain 9 1 9;plain 8 1 9;hire 0"), 27, 3, 2);
        best(told("fan 1 99;quiet 1 1 9;quiet 1 1 9;quiet 1 1 9;quiet 1 1 9;hire 0"), 36, 1, 1, 2, 3, 4, 5);
        x = told("fan 9 99;plain 3 4 5;known 1 1 9");
        does(x, 3);
        best(x, 2, 2);
        x = told("fan 1 99;quiet 1 1 9;quiet 1 1 9;known 1 1 0;hire 0");
        does(x, 4);
        best(x, 9, 2);
    }

    private static void row() {
        WhichEncore x = told("fan 9 99;plain 3 4 5");
        due(1, x.row(2), "row(2)");
        due(UNKNOWN, x.row(3), "row(3)");
        due(UNKNOWN, x.row(5), "row(5)");
        due(OUTSIDE, x.row(6), "row(6)");
        due(OUTSIDE, x.row(-1), "row(-1)");
        for (int i = 2; i <= 12; i++) {
            due(i, x.row(i % 3), "row()");
        }
        due(FULL, x.row(0), "row(0) on 12");
        due(UNKNOWN, x.row(3), "row(3) on 12");
        due(OUTSIDE, x.row(6), "row(6) on 12");
        due(12, x.count(10), "count(10)");
        about("promise 20");
        due(12, x.tear(), "tear()");
        due(0, x.tear(), "tear() again");
        due(0, x.count(10), "count(10)");
        about("promise 19");
        due(1, x.row(0), "row(0) anew");
    }

    private static void judge() {
        WhichEncore x = told("fan 5 99;sleeper 2 99;plain 3 4 5;quiet 1 7 1;arm 10");
        due(NONE, x.judge(0), "judge(0) of no row");
        due(7, x.judge(1), "judge(1) of no row");
        due(OUTSIDE, x.judge(2), "judge(2)");
        due(OUTSIDE, x.judge(-1), "judge(-1)");
        x.row(0);
        x.row(1);
        x.row(2);
        String before = state(x);
        due(NONE, x.judge(0), "judge(0): all can be");
        due(5 + 4 + 2, x.judge(1), "judge(1)");
        x.row(3);
        x.row(0);
        due(3, x.judge(0), "judge(0): too little arm");
        due(11, x.judge(1), "judge(1)");
        x.tear();
        x.row(0);
        x.row(1);
        x.row(2);
        same(before, x, "judge()");
    }

    private static void stay() {
        WhichEncore x = told("fan 5 99;guest 0 99;sleeper 2 1");
        long[][] parts = {
            {0, 5, 1, 1}, {1, 5, 7, 8}, {2, 5, 1, 2}, {3, 5, 1, 8}, {4, 5, 0, 1}, {8, 5, 0, 1},
            {3, 0, 1, 1}, {3, 10, 0, 1}, {1, 10, 0, 1}, {0, 10, 1, 1}, {3, 3, 343, 1000},
            {2, 3, 784, 1000}, {1, 1, 999, 1000}, {2, 4, 648, 1000}};
        for (long[] p : parts) {
            long common = gcd(p[2], p[3]);
            due(p[2] / common, x.stay((int) p[0], (int) p[1], 0), "stay(" + p[0] + ", " + p[1] + ", 0)");
            due(p[3] / common, x.stay((int) p[0], (int) p[1], 1), "stay(" + p[0] + ", " + p[1] + ", 1)");
        }
        does(x, 0);
        due(3, x.stay(1, 5, 0), "stay(1, 5, 0) of two");
        due(4, x.stay(1, 5, 1), "stay(1, 5, 1) of two");
        due(OUTSIDE, x.stay(-1, 5, 0), "stay(-1, 5, 0)");
        due(OUTSIDE, x.stay(9, 5, 0), "stay(9, 5, 0)");
        due(OUTSIDE, x.stay(0, -1, 0), "stay(0, -1, 0)");
        due(OUTSIDE, x.stay(0, 11, 0), "stay(0, 11, 0)");
        due(OUTSIDE, x.stay(0, 5, 2), "stay(0, 5, 2)");
        due(OUTSIDE, x.stay(0, 5, -1), "stay(0, 5, -1)");
        x = told("fan 1 9;".repeat(7) + "fan 1 9");
        due(99999999, x.stay(1, 1, 0), "stay(1, 1, 0) of eight");
        due(100000000, x.stay(1, 1, 1), "stay(1, 1, 1) of eight");
    }

    private static long gcd(long a, long b) {
        return b == 0 ? a : gcd(b, a % b);
    }

    private static void gone() {
        WhichEncore x = told("fan 5 99;guest 0 99;sleeper 3 1;shouter 2 99;fan 5 99");
        due(1, x.gone(0, 0), "gone(0, 0): the empty set");
        due(0, x.gone(0, 1), "gone(0, 1)");
        due(3, x.gone(5, 0), "gone(5, 0)");
        due(1, x.gone(5, 1), "gone(5, 1)");
        due(3, x.gone(10, 0), "gone(10, 0)");
        due(13, x.gone(10, 1), "gone(10, 1)");
        due(0, x.gone(1, 0), "gone(1, 0)");
        due(NONE, x.gone(1, 1), "gone(1, 1)");
        due(1, x.gone(15, 0), "gone(15, 0)");
        due(29, x.gone(15, 1), "gone(15, 1)");
        due(0, x.gone(400, 0), "gone(400, 0)");
        due(OUTSIDE, x.gone(401, 0), "gone(401, 0)");
        due(OUTSIDE, x.gone(-1, 0), "gone(-1, 0)");
        due(OUTSIDE, x.gone(0, 2), "gone(0, 2)");
        due(OUTSIDE, x.gone(0, -1), "gone(0, -1)");
        does(x, 1, 0);
        due(0, x.gone(5, 0), "gone(5, 0): the one who is gone does not count");
    }

    private static void prepared() {
        WhichEncore x = told("fan 5 99;plain 3 4 5;quiet 5 3 9;brilliant 4 6 7;known 2 2 4;arm 9");
        due(18, x.prepared(0), "prepared(0)");
        due(11, x.prepared(1), "prepared(1)");
        due(OUTSIDE, x.prepared(2), "prepared(2)");
        due(OUTSIDE, x.prepared(-1), "prepared(-1)");
        does(x, 3);
        due(13, x.prepared(0), "prepared(0): arm as it is, played or not");
        due(10, x.prepared(1), "prepared(1): arm as it is, played or not");
        x = told("plain 1 2 5;plain 1 2 5;plain 1 2 5;arm 4");
        due(10, x.prepared(0), "prepared(0)");
        due(3, x.prepared(1), "prepared(1): of several the least");
        x = told("plain 1 2 0;plain 1 2 0");
        due(0, x.prepared(1), "prepared(1): nothing is of worth");
        x = told("plain 1 2 7;arm 1");
        due(0, x.prepared(0), "prepared(0): too little arm");
        x = told("plain 1 2 7;arm 2");
        due(7, x.prepared(0), "prepared(0): just enough arm");
    }

    private static void other() {
        WhichEncore x = told("fan 9 99;fan 9 99;plain 3 4 5;quiet 5 3 9;brilliant 4 6 7;known 2 2 4;arm 14");
        String before = state(x);
        due(-30, x.other(0), "other(0)");
        due(13 - 30, x.other(3), "other(3)");
        due(0, x.other(14), "other(14)");
        due(36 - 30, x.other(30), "other(30)");
        due(OUTSIDE, x.other(31), "other(31)");
        due(OUTSIDE, x.other(-1), "other(-1)");
        same(before, x, "other()");
        does(x, 3);
        due(0, x.other(11), "other(11) of the arm that is left");
    }

    private static void count() {
        WhichEncore x = told("fan 9 3;shouter 9 99;plain 3 1 7;quiet 9 9 9;known 1 2 9;hire 2;arm 9");
        does(x, 0, 1, 4, 1);
        x.row(0);
        put(x, "fan");
        counts(x, 2, 3, 2, 18, 7, 2, 4, 18, 3, 4, 1, 4, 3);
        due(OUTSIDE, x.count(13), "count(13)");
        due(OUTSIDE, x.count(-1), "count(-1)");
        does(x, 2);
        due(2, x.count(8), "count(8)");
        due(5, x.count(9), "count(9)");
    }

    public static void main(String[] args) {
        about("promise 1"); newObject();
        about("promise 2"); write();
        about("promise 3"); erase();
        about("promise 4"); fault();
        about("promise 5"); hall();
        about("promise 6"); clapper();
        about("promise 7"); encore();
        about("promise 8"); as();
        about("promise 9"); encoreAs();
        about("promise 10"); can();
        about("promise 11"); does();
        about("promise 12"); undo();
        keepAndBack();
        tillThereSound();
        about("promise 18"); best();
        about("promise 19"); row();
        about("promise 21"); judge();
        about("promise 22"); stay();
        about("promise 23"); gone();
        about("promise 24"); prepared();
        about("promise 25"); other();
        about("promise 26"); count();
        finish();
    }
}
