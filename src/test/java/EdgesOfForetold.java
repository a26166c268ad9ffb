// Boundary cases of what is foretold, 15 to 26.
public final class EdgesOfForetold extends Edges {
    private static final int[] NO_WAITS = {-1, 100, LEAST, MOST};

    private static void till() {
        says("Terms", "FORETOLD from now (nothing changes)");
        WhichEncore x = told("fan 9 3;sleeper 9 99;plain 3 4 5;quiet 1 1 9");
        does(x, 0, 1);
        x.row(2);
        x.row(1);
        String before = state(x);
        x.till();
        x.there(99);
        x.sound(99);
        x.best(NONE);
        x.best(0);
        x.judge(0);
        x.judge(1);
        x.stay(1, 5, 0);
        x.gone(9, 1);
        x.prepared(1);
        x.other(30);
        same(before, x, "what is foretold");
        says("Terms", "TILL: by how many WAITS there is no NOISE.");
        due(0, new WhichEncore().till(), "till() of nobody");
        due(0, told("shouter 0 99").till(), "till() of zeal 0");
        due(1, told("guest 1 99").till(), "till() of zeal 1");
        due(20, told("guest 20 99").till(), "till() of zeal 20");
        due(1, told("sleeper 1 99").till(), "till() of a sleeper of zeal 1");
        due(1, told("sleeper 2 99").till(), "till() of a sleeper of zeal 2");
        due(2, told("sleeper 3 99").till(), "till() of a sleeper of zeal 3");
        due(1, told("shouter 9 1").till(), "till() up to train 1");
        x = told("shouter 9 99");
        due(99, x.till(), "till() up to train 99");
        waits(x, 98);
        due(1, x.till(), "till() at minute 98");
        waits(x, 1);
        due(0, x.till(), "till() at minute 99");
        waits(x, 1);
        due(0, x.till(), "till() at minute 100");
        says("15", "TILL.");
        due(4, told("guest 3 99;sleeper 1 99").till(), "till()");
    }

    private static void thereAndSound() {
        says("Terms", "THERE: who is there behind n WAITS (0 .. 99), by bits.");
        WhichEncore x = told("fan 9 1;fan 9 98;fan 9 99;fan 0 99");
        due(15, x.there(0), "there(0)");
        due(14, x.there(1), "there(1)");
        due(14, x.there(97), "there(97)");
        due(12, x.there(98), "there(98)");
        due(0, x.there(99), "there(99)");
        due(0, new WhichEncore().there(0), "there(0) of nobody");
        due(0, new WhichEncore().there(99), "there(99) of nobody");
        due(255, told("fan 0 99;".repeat(7) + "fan 0 99").there(98), "there(98) of eight");
        says("16", "OUTSIDE.");
        for (int no : NO_WAITS) {
            due(OUTSIDE, x.there(no), "there(" + no + ")");
        }
        says("Terms", "SOUND: NOISE behind n WAITS.");
        x = told("shouter 9 1;shouter 5 98;shouter 3 99;fan 0 99");
        due(17, x.sound(0), "sound(0)");
        due(8, x.sound(1), "sound(1)");
        due(8, x.sound(97), "sound(97)");
        due(3, x.sound(98), "sound(98)");
        due(0, x.sound(99), "sound(99)");
        due(0, new WhichEncore().sound(0), "sound(0) of nobody");
        says("17", "OUTSIDE.");
        for (int no : NO_WAITS) {
            due(OUTSIDE, x.sound(no), "sound(" + no + ")");
        }
        waits(x, 100);
        due(0, x.there(0), "there(0) at minute 100");
        due(0, x.there(99), "there(99) at minute 100");
        due(0, x.sound(99), "sound(99) at minute 100");
    }

    private static void best() {
        says("Terms", "BEST: rows of STEPS that can be, 6 at most, BOWS and ENCORES alone");
        best(told("fan 1 99;quiet 1 1 9;quiet 1 1 9;quiet 1 1 9;quiet 1 1 9;hire 0"), 36, 1, 1, 2, 3, 4, 5);
        best(told("fan 9 99;plain 1 9 9;arm 9;hire 0"), 9, 2);
        best(told("fan 9 99;plain 1 9 9;arm 8;hire 0"), 0);
        best(told("fan 1 99;plain 1 1 9;hire 0"), 9, 2);
        best(told("fan 0 99;plain 1 1 9;hire 0"), 0);
        best(told("fan 9 2;plain 2 1 30;hire 0"), 0);
        WhichEncore x = told("fan 9 99;plain 1 1 9;hire 0");
        best(x, 9, 2);
        x.other(0);
        best(x, 9, 2);
        does(x, 2);
        best(x, 0);
        x.undo();
        best(x, 9, 2);
        x = told("sleeper 1 99;quiet 1 1 9;quiet 1 1 9;quiet 1 1 9;hire 0");
        does(x, 1, 1, 1, 0, 0, 0, 0);
        best(x, 27, 2, 1, 3, 4);
        says("Terms", "the most by which FAME grows less what is paid (the empty row: 0)");
        best(new WhichEncore(), 0);
        best(told("fan 9 99"), 0);
        best(told("fan 9 99;plain 1 1 0;hire 0"), 0);
        best(told("fan 9 99;plain 2 1 1;hire 1"), 0);
        best(told("fan 9 99;plain 2 1 2;hire 1"), 0);
        best(told("fan 9 99;plain 2 1 3;hire 1"), 1, 2);
        best(told("fan 9 99;plain 2 1 3;hire 1;close 1"), 0);
        best(told("fan 9 99;plain 1 1 3;plain 1 1 3;hire 1;close 1"), 3, 2, 3);
        x = told("fan 9 99;plain 1 1 30;quiet 1 1 4");
        does(x, 2);
        best(x, 3, 3);
        says("Terms", "the first of the shortest such rows (STEP by STEP)");
        best(told("fan 9 99;plain 1 1 5;plain 1 1 5;arm 1;hire 0"), 5, 2);
        best(told("fan 9 99;plain 1 1 5;plain 1 1 5;hire 0"), 10, 2, 3);
        best(told("fan 9 99;plain 1 1 5;plain 1 1 5;plain 1 2 10;arm 2;hire 0"), 10, 4);
        best(told("fan 9 99;plain 1 1 0;plain 1 1 5;hire 0"), 5, 3);
        best(told("fan 1 99;quiet 1 1 5;plain 1 1 5;hire 0"), 10, 3, 2);
        best(told("fan 1 99;quiet 1 1 5;quiet 1 1 5;hire 0"), 10, 1, 2, 3);
        best(told("fan 2 99;quiet 1 1 5;quiet 1 1 5;quiet 1 1 5;hire 0"), 15, 1, 2, 3, 4);
        says("18", "by how much (i NONE), STEP i; NONE: there are not so many.");
        x = told("fan 9 99;plain 1 1 5;plain 1 1 5;hire 0");
        due(10, x.best(NONE), "best(NONE)");
        due(2, x.best(0), "best(0)");
        due(3, x.best(1), "best(1)");
        due(NONE, x.best(2), "best(2)");
        due(NONE, x.best(6), "best(6)");
        due(NONE, x.best(MOST), "best(" + MOST + ")");
        due(NONE, new WhichEncore().best(0), "best(0) of the empty row");
        says("18", "OUTSIDE: i below NONE.");
        due(OUTSIDE, x.best(-2), "best(-2)");
        due(OUTSIDE, x.best(LEAST), "best(" + LEAST + ")");
    }

    private static void row() {
        says("Terms", "THE ROW, 12 STEPS at most");
        WhichEncore x = told("fan 9 99;plain 1 1 5");
        for (int i = 1; i <= 12; i++) {
            due(i, x.row(i == 12 ? 2 : i % 2), "row() of the " + i + "th");
        }
        due(NONE, x.judge(0), "judge(0) of twelve");
        due(FULL, x.row(0), "row(0) of a 13th");
        due(12, x.count(10), "count(10)");
        says("19", "A STEP behind THE ROW: how many.");
        x = told("fan 9 99");
        due(1, x.row(0), "row(0)");
        due(2, x.row(1), "row(1)");
        says("19", "UNKNOWN, OUTSIDE as can(); FULL.");
        for (int encores = 0; encores <= 4; encores++) {
            x = told("fan 0 99" + ";plain 1 1 1".repeat(encores));
            for (int step = 2; step <= 5; step++) {
                due(step < 2 + encores ? step - 1 : UNKNOWN, x.row(step), "row(" + step + ") of " + encores);
            }
            for (int no : new int[] {-1, 6, LEAST, MOST}) {
                due(OUTSIDE, x.row(no), "row(" + no + ") of " + encores);
            }
        }
        x = told("fan 9 99;plain 1 1 5");
        for (int i = 0; i < 12; i++) {
            x.row(2);
        }
        due(FULL, x.row(2), "row(2) of a 13th");
        due(UNKNOWN, x.row(3), "row(3) of a 13th: both fit");
        due(UNKNOWN, x.row(5), "row(5) of a 13th: both fit");
        due(OUTSIDE, x.row(6), "row(6) of a 13th: both fit");
        due(OUTSIDE, x.row(-1), "row(-1) of a 13th: both fit");
        says("20", "THE ROW is empty: how many it had.");
        due(12, x.tear(), "tear() of twelve");
        due(0, x.tear(), "tear() of an empty row");
        due(0, x.count(10), "count(10)");
        due(NONE, x.judge(0), "judge(0) of an empty row");
        due(1, x.row(0), "row(0) behind tear()");
    }

    private static void judge() {
        says("Terms", "JUDGED: the first that can not be; NOISE behind those ahead.");
        WhichEncore x = told("fan 1 99;fan 0 99;plain 1 9 5;quiet 1 2 1");
        x.row(3);
        x.row(1);
        due(1, x.judge(0), "judge(0): no noise behind the first");
        due(0, x.judge(1), "judge(1)");
        x.tear();
        x.row(2);
        x.row(3);
        due(1, x.judge(0), "judge(0): arm behind the first");
        due(3, x.judge(1), "judge(1)");
        x.tear();
        x.row(2);
        x.row(2);
        due(1, x.judge(0), "judge(0): the first was played");
        x.tear();
        for (int i = 0; i < 11; i++) {
            x.row(0);
        }
        x.row(1);
        due(11, x.judge(0), "judge(0): the twelfth");
        does(x, 0);
        x.tear();
        x.row(1);
        x.row(0);
        due(0, x.judge(0), "judge(0): the first of all");
        due(0, x.judge(1), "judge(1)");
        says("21", "which (what 0; NONE: all can be), NOISE behind those ahead (1).");
        x = told("fan 3 99");
        due(NONE, x.judge(0), "judge(0) of an empty row");
        due(3, x.judge(1), "judge(1) of an empty row");
        x.row(1);
        due(NONE, x.judge(0), "judge(0): all can be");
        due(7, x.judge(1), "judge(1): all can be");
        says("21", "OUTSIDE.");
        for (int no : new int[] {-1, 2, LEAST, MOST}) {
            due(OUTSIDE, x.judge(no), "judge(" + no + ")");
        }
    }

    private static void odds(WhichEncore x, int n, int p, long above, long below) {
        due(above, x.stay(n, p, 0), "stay(" + n + ", " + p + ", 0)");
        due(below, x.stay(n, p, 1), "stay(" + n + ", " + p + ", 1)");
    }

    private static void stay() {
        says("Terms", "STAY: the odds that of those who are there n at least (0 .. 8) stay");
        WhichEncore x = told("fan 0 99;".repeat(7) + "fan 9 99");
        odds(x, 0, 5, 1, 1);
        odds(x, 1, 5, 255, 256);
        odds(x, 8, 5, 1, 256);
        odds(x, 4, 5, 163, 256);
        x = told("fan 9 99;fan 0 99;fan 9 1");
        odds(x, 3, 5, 1, 8);
        odds(x, 4, 5, 0, 1);
        does(x, 0);
        odds(x, 2, 5, 1, 4);
        odds(x, 3, 5, 0, 1);
        odds(new WhichEncore(), 0, 5, 1, 1);
        odds(new WhichEncore(), 1, 5, 0, 1);
        says("Terms", "if each goes by p tenths (0 .. 10), by himself");
        x = told("fan 9 99;fan 9 99");
        odds(x, 2, 0, 1, 1);
        odds(x, 1, 10, 0, 1);
        odds(x, 0, 10, 1, 1);
        odds(x, 3, 0, 0, 1);
        odds(x, 2, 1, 81, 100);
        odds(x, 2, 9, 1, 100);
        odds(x, 1, 9, 19, 100);
        odds(new WhichEncore(), 0, 10, 1, 1);
        odds(new WhichEncore(), 0, 0, 1, 1);
        odds(new WhichEncore(), 1, 0, 0, 1);
        says("Terms", "Parts are told in lowest terms: above (part 0), below (1).");
        odds(x, 2, 5, 1, 4);
        odds(x, 1, 4, 21, 25);
        x = told("fan 0 99;".repeat(7) + "fan 9 99");
        odds(x, 8, 9, 1, 100000000);
        odds(x, 1, 1, 99999999, 100000000);
        odds(x, 8, 0, 1, 1);
        odds(x, 1, 10, 0, 1);
        says("22", "OUTSIDE.");
        for (int no : new int[] {-1, 9, LEAST, MOST}) {
            due(OUTSIDE, x.stay(no, 5, 0), "stay(" + no + ", 5, 0)");
        }
        for (int no : new int[] {-1, 11, LEAST, MOST}) {
            due(OUTSIDE, x.stay(1, no, 0), "stay(1, " + no + ", 0)");
        }
        for (int no : new int[] {-1, 2, LEAST, MOST}) {
            due(OUTSIDE, x.stay(1, 5, no), "stay(1, 5, " + no + ")");
            due(OUTSIDE, x.stay(9, 11, no), "stay(9, 11, " + no + ")");
        }
    }

    private static void gone() {
        says("Terms", "sets of those who CLAP whose ZEAL together is a told number: how many; the least (by bits); none");
        WhichEncore x = told("fan 5 99;fan 0 99;fan 9 1;fan 2 99;fan 3 99;fan 5 99");
        due(1, x.gone(0, 0), "gone(0, 0): the empty set alone");
        due(0, x.gone(0, 1), "gone(0, 1)");
        due(3, x.gone(5, 0), "gone(5, 0)");
        due(1, x.gone(5, 1), "gone(5, 1)");
        due(3, x.gone(10, 0), "gone(10, 0)");
        due(25, x.gone(10, 1), "gone(10, 1): the least of three");
        due(1, x.gone(24, 0), "gone(24, 0): all who clap");
        due(61, x.gone(24, 1), "gone(24, 1): all who clap");
        due(0, x.gone(25, 0), "gone(25, 0)");
        due(NONE, x.gone(25, 1), "gone(25, 1)");
        due(0, x.gone(1, 0), "gone(1, 0)");
        due(NONE, x.gone(1, 1), "gone(1, 1)");
        does(x, 0);
        due(0, x.gone(24, 0), "gone(24, 0): one is gone");
        due(1, new WhichEncore().gone(0, 0), "gone(0, 0) of nobody");
        due(0, new WhichEncore().gone(0, 1), "gone(0, 1) of nobody");
        due(1, told("fan 0 99;fan 0 99").gone(0, 0), "gone(0, 0): who does not clap is in no set");
        due(256, setsOfEight(), "gone(): all sets of eight together");
        says("23", "GONE by a number (0 .. 400): how many sets (what 0), the least (1; NONE).");
        due(0, x.gone(400, 0), "gone(400, 0)");
        due(NONE, x.gone(400, 1), "gone(400, 1)");
        says("23", "OUTSIDE.");
        for (int no : new int[] {-1, 401, LEAST, MOST}) {
            due(OUTSIDE, x.gone(no, 0), "gone(" + no + ", 0)");
            due(OUTSIDE, x.gone(no, 2), "gone(" + no + ", 2)");
        }
        for (int no : new int[] {-1, 2, LEAST, MOST}) {
            due(OUTSIDE, x.gone(0, no), "gone(0, " + no + ")");
        }
    }

    private static int setsOfEight() {
        WhichEncore x = told("fan 1 99;".repeat(7) + "fan 20 99");
        int sets = 0;
        for (int number = 0; number <= 27; number++) {
            sets += x.gone(number, 0);
        }
        return sets;
    }

    private static void set(WhichEncore x, int worth, int set) {
        due(worth, x.prepared(0), "prepared(0)");
        due(set, x.prepared(1), "prepared(1)");
    }

    private static void prepared() {
        says("Terms", "PREPARED: the set of ENCORES that take ARM as it is at most together");
        set(new WhichEncore(), 0, 0);
        set(told("plain 1 4 7;arm 3"), 0, 0);
        set(told("plain 1 4 7;arm 4"), 7, 1);
        set(told("plain 1 4 7;plain 1 5 8;arm 8"), 8, 2);
        set(told("plain 1 4 7;plain 1 5 8;arm 9"), 15, 3);
        set(told("plain 1 1 7;arm 0"), 0, 0);
        set(told("plain 1 7 30;plain 1 8 30;plain 1 7 30;plain 1 8 30;arm 30"), 120, 15);
        set(told("plain 1 7 30;plain 1 8 30;plain 1 7 30;plain 1 8 30;arm 29"), 90, 7);
        says("Terms", "of most WORTH together (played or not); of several the least; how much");
        WhichEncore x = told("fan 9 99;plain 1 4 7;plain 1 6 8;arm 10");
        does(x, 2);
        set(x, 8, 2);
        x = told("fan 9 99;plain 1 4 7;plain 1 6 8;arm 8");
        does(x, 2);
        set(x, 7, 1);
        set(told("plain 1 1 5;plain 1 1 5;plain 1 1 5;arm 1"), 5, 1);
        set(told("plain 1 1 5;plain 1 1 5;plain 1 1 5;arm 2"), 10, 3);
        set(told("plain 1 1 0;plain 1 1 0"), 0, 0);
        set(told("plain 1 1 0;plain 1 1 5"), 5, 2);
        set(told("plain 1 1 5;plain 1 1 0"), 5, 1);
        set(told("plain 1 2 5;plain 1 2 5;plain 1 4 10;arm 4"), 10, 3);
        says("24", "WORTH (what 0), the set (1). OUTSIDE.");
        for (int no : new int[] {-1, 2, LEAST, MOST}) {
            due(OUTSIDE, x.prepared(no), "prepared(" + no + ")");
        }
    }

    private static void other() {
        says("Terms", "OTHER: what BEST grows by, were ARM that is left so much (0 .. 30).");
        WhichEncore x = told("fan 9 99;plain 1 9 3;quiet 1 9 5;plain 1 6 7;quiet 1 6 9;arm 12;hire 0");
        due(-16, x.other(0), "other(0)");
        due(-16, x.other(5), "other(5)");
        due(-7, x.other(6), "other(6)");
        due(-7, x.other(11), "other(11)");
        due(0, x.other(12), "other(12)");
        due(0, x.other(20), "other(20)");
        due(5, x.other(21), "other(21)");
        due(5, x.other(29), "other(29)");
        due(8, x.other(30), "other(30)");
        does(x, 5);
        due(6, x.count(4), "count(4)");
        due(0, x.other(6), "other(6), the arm that is left");
        due(5, x.other(15), "other(15), more than is left");
        due(0, new WhichEncore().other(30), "other(30) of nothing prepared");
        says("25", "OUTSIDE.");
        for (int no : new int[] {-1, 31, LEAST, MOST}) {
            due(OUTSIDE, x.other(no), "other(" + no + ")");
        }
    }

    private static void count() {
        says("26", "0 CLAPPERS, 1 ENCORES, 2 the MINUTE, 3 NOISE, 4 ARM left, 5 BOWS, 6 what was paid, 7 FAME, 8 who is there, by bits, 9 ENCORES played, by bits, 10 THE ROW, 11 how many can be undone, 12 letters of THE TEXT.");
        WhichEncore x = new WhichEncore();
        counts(x, 0, 0, 0, 0, 10, 0, 0, 0, 0, 0, 0, 0, 0);
        tell(x, "shouter 9 2;shouter 5 99;shouter 2 99;quiet 1 2 7;plain 2 3 4;quiet 1 1 1;hire 2;close 3");
        does(x, 0, 1, 3, 1);
        x.row(0);
        x.row(1);
        put(x, "bravo");
        counts(x, 3, 3, 3, 14 + 11, 7, 2, 6, 8, 6, 2, 2, 4, 5);
        says("26", "OUTSIDE.");
        for (int no : new int[] {-1, 13, LEAST, MOST}) {
            due(OUTSIDE, x.count(no), "count(" + no + ")");
        }
    }

    public static void main(String[] args) {
        till();
        thereAndSound();
        best();
        row();
        judge();
        stay();
        gone();
        prepared();
        other();
        count();
        finish();
    }
}
