// Boundary cases of the evening: who claps, minutes, what each step needs and does, 6 to 14.
public final class EdgesOfSteps extends Edges {
    private static final String ALL_KINDS = "plain 1 1 1;quiet 1 1 1;brilliant 1 1 1;known 1 1 1";

    private static void zeal(int want, WhichEncore x, int clapper, String when) {
        due(want, x.clapper(clapper, 1), "clapper(" + clapper + ", 1) " + when);
    }

    private static void zealBehind(int want, String text, int... steps) {
        WhichEncore x = told(text);
        does(x, steps);
        zeal(want, x, 0, "of '" + text + "' behind its steps");
    }

    private static void claps() {
        says("Terms", "One CLAPS who is there and has ZEAL.");
        WhichEncore x = told("fan 0 9;fan 1 9;fan 9 1");
        due(0, x.clapper(0, 4), "clapper(0, 4) of zeal 0");
        due(1, x.clapper(1, 4), "clapper(1, 4) of zeal 1");
        due(1, x.clapper(2, 4), "clapper(2, 4) ahead of his train");
        does(x, 0);
        due(0, x.clapper(2, 4), "clapper(2, 4) behind his train");
        says("Terms", "NOISE: ZEAL of all who CLAP.");
        due(0, new WhichEncore().count(3), "count(3) of nobody");
        due(0, told("fan 0 9;fan 0 9").count(3), "count(3) of no zeal");
        due(1, told("fan 0 9;fan 1 9").count(3), "count(3) of zeal 1");
        due(1, x.count(3), "count(3): who is gone is not heard");
        x = told("fan 20 99;".repeat(7) + "fan 20 99;arm 30");
        tell(x, "brilliant 1 1 1;".repeat(3) + "brilliant 1 1 1");
        does(x, 2, 3, 4, 5);
        due(320, x.count(3), "count(3): eight, all with 40");
    }

    private static void minutes() {
        says("Terms", "HIRE is paid (twice, if it is the CLOSING one or a later one)");
        WhichEncore x = told("fan 9 99;hire 3;close 2");
        int[] paid = {3, 6, 12, 18};
        for (int want : paid) {
            does(x, 0);
            due(want, x.count(6), "count(6) at minute " + x.count(2));
        }
        x = told("fan 9 99;hire 3;close 2;plain 2 1 1;quiet 1 1 1");
        does(x, 2);
        due(6, x.count(6), "count(6): an encore up to the closing minute");
        does(x, 3);
        due(12, x.count(6), "count(6): an encore at the closing minute");
        x = told("fan 9 99;hire 3;close 2;plain 9 1 1");
        does(x, 2);
        due(2 * 3 + 7 * 6, x.count(6), "count(6): an encore across the closing minute");
        says("Terms", "it is the next one");
        due(9, x.count(2), "count(2) behind an encore of 9");
        does(x, 0);
        due(10, x.count(2), "count(2) behind a wait");
        says("Terms", "whose TRAIN is at it, or was, is gone");
        x = told("fan 9 1;fan 9 2;fan 9 99");
        due(7, x.count(8), "count(8) at minute 0");
        does(x, 0);
        due(6, x.count(8), "count(8) at minute 1");
        does(x, 0);
        due(4, x.count(8), "count(8) at minute 2");
        waits(x, 96);
        due(4, x.count(8), "count(8) at minute 98");
        does(x, 0);
        due(0, x.count(8), "count(8) at minute 99");
        x = told("fan 9 1;fan 9 2;fan 9 3;fan 9 4;plain 3 1 1");
        does(x, 2);
        due(8, x.count(8), "count(8) at minute 3, by one encore");
    }

    private static void waiting() {
        says("Terms", "0 a WAIT: each who CLAPS has 1 ZEAL less");
        zealBehind(4, "guest 5 99", 0);
        zealBehind(0, "guest 1 99", 0);
        zealBehind(0, "guest 1 99", 0, 0);
        for (String word : CLAPPER_WORDS) {
            zealBehind(0, word + " 0 99", 0);
            zealBehind(0, word + " 0 99;fan 9 99", 0);
        }
        zealBehind(8, "guest 9 1", 0, 0, 0);
        says("Terms", "a GUEST none less, if all BESIDE him CLAP (one at least is BESIDE him)");
        zealBehind(4, "guest 5 99", 0);
        zealBehind(5, "guest 5 99;fan 1 99", 0);
        zealBehind(4, "guest 5 99;fan 0 99", 0);
        int[][] besides = {{0, 0, 4}, {0, 1, 4}, {1, 0, 4}, {1, 1, 5}};
        for (int[] b : besides) {
            WhichEncore x = told("fan " + b[0] + " 99;guest 5 99;fan " + b[1] + " 99");
            does(x, 0);
            zeal(b[2], x, 1, "of a guest between zeal " + b[0] + " and " + b[1]);
        }
        zealBehind(4, "guest 5 99;shouter 9 1", 0, 0);
        says("Terms", "a FAN none less, if any BESIDE him CLAPS");
        zealBehind(4, "fan 5 99", 0);
        int[][] any = {{0, 0, 4}, {0, 1, 5}, {1, 0, 5}, {1, 1, 5}};
        for (int[] b : any) {
            WhichEncore x = told("guest " + b[0] + " 99;fan 5 99;guest " + b[1] + " 99");
            does(x, 0);
            zeal(b[2], x, 1, "of a fan between zeal " + b[0] + " and " + b[1]);
        }
        zealBehind(4, "fan 5 99;shouter 9 1", 0, 0);
        says("Terms", "a SLEEPER 2 less (0 at least)");
        zealBehind(18, "sleeper 20 99", 0);
        zealBehind(1, "sleeper 3 99", 0);
        zealBehind(0, "sleeper 2 99", 0);
        zealBehind(0, "sleeper 1 99", 0);
        zealBehind(0, "sleeper 3 99", 0, 0, 0);
        zealBehind(1, "sleeper 3 99;fan 9 99", 0);
        says("Terms", "a SHOUTER none less, as long as no KNOWN ENCORE was played, then 1, whoever is BESIDE him");
        zealBehind(1, "shouter 1 99", 0, 0);
        zealBehind(3, "shouter 3 99;fan 0 99", 0);
        zealBehind(5, "shouter 3 99;plain 1 1 1", 2, 0);
        zealBehind(1, "shouter 3 99;quiet 1 1 1", 2, 0);
        zealBehind(8, "shouter 3 99;brilliant 1 1 1", 2, 0);
        zealBehind(2, "shouter 3 99;known 1 1 1", 2, 0);
        zealBehind(2, "shouter 3 99;shouter 3 99;known 1 1 1", 2, 0);
        zealBehind(0, "shouter 3 99;known 1 1 1", 2, 0, 0, 0, 0);
        says("Terms", "(all at once, as they were); then a MINUTE goes by");
        zealBehind(5, "fan 5 99;sleeper 1 99", 0);
        WhichEncore x = told("sleeper 1 99;fan 5 99");
        does(x, 0);
        zeal(5, x, 1, "of a fan beside one who claps his last");
        zealBehind(5, "fan 5 99;fan 5 1", 0);
        due(1, x.count(2), "count(2) behind a wait");
    }

    private static void bowing() {
        says("Terms", "1 a BOW (he is called: there is NOISE)");
        due(0, new WhichEncore().can(1), "can(1) with nobody there");
        due(0, told("fan 0 9").can(1), "can(1) of noise 0");
        due(1, told("fan 1 9").can(1), "can(1) of noise 1");
        WhichEncore x = told("fan 9 1");
        does(x, 0);
        due(0, x.can(1), "can(1) when all are gone");
        due(NOT, x.does(1), "does(1) when all are gone");
        says("Terms", "who CLAPS has 4 ZEAL more, less 1 for each BOW that was (0 at least");
        x = told("shouter 1 99;fan 0 99;shouter 9 1");
        does(x, 0);
        int[] then = {5, 8, 10, 11, 11, 11};
        for (int want : then) {
            due(want, x.does(1), "does(1)");
            zeal(0, x, 1, "of one who does not clap");
            zeal(9, x, 2, "of one who is gone");
        }
        due(6, x.count(5), "count(5)");
        says("Terms", "0, too, if a KNOWN one was played)");
        zealBehind(3, "fan 3 99;known 1 1 1", 2, 1);
        zealBehind(9, "fan 3 99;plain 1 1 1", 2, 1);
        zealBehind(3, "fan 3 99;known 1 1 1", 1, 2, 1);
        says("Terms", "40 at most; no MINUTE goes by");
        String cheers = " 99;brilliant 1 1 1;brilliant 1 1 1;brilliant 1 1 1;plain 1 1 1";
        zealBehind(39, "fan 18" + cheers, 2, 3, 4, 5, 1);
        zealBehind(40, "fan 19" + cheers, 2, 3, 4, 5, 1);
        zealBehind(40, "fan 20" + cheers, 2, 3, 4, 5, 1);
        zealBehind(40, "fan 20" + cheers, 2, 3, 4, 5, 1, 1);
        x = told("fan 9 1");
        does(x, 1, 1, 1);
        due(0, x.count(2), "count(2) behind bows");
        due(0, x.count(6), "count(6) behind bows");
        due(1, x.count(8), "count(8) behind bows");
    }

    private static void playing() {
        says("Terms", "2 and more: ENCORE 0 and more (it was not played, there is NOISE, ARM is enough)");
        for (int e = 0; e < 4; e++) {
            WhichEncore x = told("fan 20 99;arm 30;" + ALL_KINDS);
            does(x, 2 + e);
            due(1 << e, x.count(9), "count(9) behind step " + (2 + e));
            due(NOT, x.does(2 + e), "does(" + (2 + e) + ") again");
            due(0, x.can(2 + e), "can(" + (2 + e) + ") again");
        }
        due(0, told("fan 0 9;plain 1 1 1").can(2), "can(2) of noise 0");
        due(1, told("fan 1 9;plain 1 1 1").can(2), "can(2) of noise 1");
        due(1, told("fan 1 9;plain 1 9 1;arm 9").can(2), "can(2): arm is just enough");
        due(0, told("fan 1 9;plain 1 9 1;arm 8").can(2), "can(2): arm is one too little");
        due(0, told("fan 1 9;plain 1 1 1;arm 0").can(2), "can(2): no arm");
        says("Terms", "its MINUTES go by, one after another; ARM is less");
        WhichEncore x = told("fan 9 99;plain 1 1 1;plain 9 9 1;arm 10");
        does(x, 2);
        due(1, x.count(2), "count(2) behind an encore of 1");
        due(9, x.count(4), "count(4) behind an encore of 1");
        does(x, 3);
        due(10, x.count(2), "count(2) behind an encore of 9");
        due(0, x.count(4), "count(4): the arm is used up");
        says("Terms", "by a PLAIN one, who CLAPS has 2 ZEAL more");
        x = told("fan 0 99;fan 1 99;fan 9 1;plain 1 1 1");
        does(x, 2);
        zeal(0, x, 0, "of one who does not clap");
        zeal(3, x, 1, "of one who claps");
        zeal(9, x, 2, "of one who is gone then");
        says("Terms", "by a QUIET one all who are there have half (cut)");
        int[][] halves = {{0, 0}, {1, 0}, {2, 1}, {3, 1}, {19, 9}, {20, 10}};
        for (int[] half : halves) {
            zealBehind(half[1], "fan " + half[0] + " 99;fan 9 99;quiet 1 1 1", 2);
        }
        zealBehind(9, "fan 9 1;fan 9 99;quiet 1 1 1", 2);
        says("Terms", "by a BRILLIANT one all who are there have 5 more");
        zealBehind(5, "fan 0 99;fan 9 99;brilliant 1 1 1", 2);
        zealBehind(6, "fan 1 99;fan 9 99;brilliant 1 1 1", 2);
        zealBehind(9, "fan 9 1;fan 9 99;brilliant 1 1 1", 2);
        says("Terms", "by the KNOWN one all who are there have as much as they came with");
        zealBehind(0, "fan 0 99;fan 9 99;brilliant 1 1 1;known 1 1 1", 2, 3);
        zealBehind(20, "fan 20 99;brilliant 1 1 1;known 1 1 1", 2, 3);
        zealBehind(20, "sleeper 20 99;known 1 1 1", 0, 0, 2);
        zealBehind(5, "sleeper 5 99;fan 9 99;known 1 1 1", 0, 0, 0, 0, 2);
        zealBehind(7, "sleeper 9 2;fan 9 99;known 1 1 1", 0, 2);
    }

    private static void mostZealAndFame() {
        says("Terms", "(40 at most always)");
        String twice = " 99;brilliant 1 1 1;brilliant 1 1 1;plain 1 1 1;brilliant 1 1 1";
        zealBehind(39, "fan 18" + twice, 1, 1, 1, 2, 3, 4);
        zealBehind(40, "fan 19" + twice, 1, 1, 1, 2, 3, 4);
        zealBehind(40, "fan 20" + twice, 1, 1, 1, 2, 3, 4);
        zealBehind(39, "fan 20" + twice, 1, 1, 1, 2, 3);
        zealBehind(39, "fan 18" + twice, 1, 2, 3, 4, 5);
        zealBehind(40, "fan 19" + twice, 1, 2, 3, 4, 5);
        zealBehind(40, "fan 20" + twice, 1, 2, 3, 4, 5);
        says("Terms", "FAME is more by its WORTH times how many are there then");
        fame(0, "fan 9 99;plain 1 1 0", 2);
        fame(30, "fan 9 99;plain 1 1 30", 2);
        fame(14, "fan 9 99;fan 0 99;plain 1 1 7", 2);
        fame(7, "fan 9 99;fan 9 1;plain 1 1 7", 2);
        fame(7, "fan 9 99;fan 9 8;plain 9 1 7", 2);
        fame(0, "fan 9 1;plain 1 1 30", 2);
        fame(240, "fan 9 99;".repeat(8) + "plain 1 1 30", 2);
        fame(4, "fan 9 99;quiet 1 1 1;quiet 1 1 3", 2, 3);
    }

    private static void fame(int want, String text, int... steps) {
        WhichEncore x = told(text);
        does(x, steps);
        due(want, x.count(7), "count(7) of '" + text + "' behind its steps");
    }

    private static void kinds() {
        says("Terms", "ONE (0); GUEST (1) under it; FAN (2) is a GUEST; SLEEPER (3) is ONE; SHOUTER (4) is a FAN");
        WhichEncore x = told("guest 5 99;fan 5 99;sleeper 5 99;shouter 5 99");
        int[][] as = {{0, 0, NOT, NOT, NOT}, {0, 0, 0, NOT, NOT}, {2, NOT, NOT, 2, NOT}, {0, 0, 0, NOT, 0}};
        for (int c = 0; c < 4; c++) {
            for (int kind = 0; kind <= 4; kind++) {
                due(as[c][kind], x.as(c, kind), "as(" + c + ", " + kind + ")");
            }
        }
        says("Terms", "ENCORE (0); PLAIN (1) under it; QUIET (2) is an ENCORE; BRILLIANT (3) is PLAIN; KNOWN (4) is BRILLIANT");
        x = told(ALL_KINDS);
        int[][] encoreAs = {{9, 9, NOT, NOT, NOT}, {3, NOT, 3, NOT, NOT}, {12, 12, NOT, 12, NOT}, {9, 9, NOT, 9, 9}};
        for (int e = 0; e < 4; e++) {
            for (int kind = 0; kind <= 4; kind++) {
                due(encoreAs[e][kind], x.encoreAs(e, kind), "encoreAs(" + e + ", " + kind + ")");
            }
        }
    }

    private static void clapper() {
        says("6", "KIND (what 0), ZEAL now (1), TRAIN (2), 1 he is there, 0 (3), 1 he CLAPS, 0 (4), ZEAL with which he came (5).");
        WhichEncore x = told("shouter 8 2;sleeper 7 1;fan 0 9");
        does(x, 0);
        int[][] want = {{3, 8, 2, 1, 1, 8}, {2, 5, 1, 0, 0, 7}, {1, 0, 9, 1, 0, 0}};
        for (int c = 0; c < 3; c++) {
            for (int what = 0; what <= 5; what++) {
                due(want[c][what], x.clapper(c, what), "clapper(" + c + ", " + what + ")");
            }
        }
        says("6", "UNKNOWN; OUTSIDE.");
        for (int no : new int[] {-1, 3, 8, LEAST, MOST}) {
            due(UNKNOWN, x.clapper(no, 0), "clapper(" + no + ", 0)");
            due(UNKNOWN, x.clapper(no, 6), "clapper(" + no + ", 6): both fit");
            due(UNKNOWN, x.clapper(no, -1), "clapper(" + no + ", -1): both fit");
        }
        for (int no : new int[] {-1, 6, LEAST, MOST}) {
            due(OUTSIDE, x.clapper(0, no), "clapper(0, " + no + ")");
        }
    }

    private static void encore() {
        says("7", "KIND (what 0), MINUTES (1), ARM (2), WORTH (3), 1 it was played, 0 (4).");
        WhichEncore x = told("fan 9 99;known 1 2 3;quiet 4 5 6");
        does(x, 2);
        int[][] want = {{3, 1, 2, 3, 1}, {1, 4, 5, 6, 0}};
        for (int e = 0; e < 2; e++) {
            for (int what = 0; what <= 4; what++) {
                due(want[e][what], x.encore(e, what), "encore(" + e + ", " + what + ")");
            }
        }
        says("7", "UNKNOWN; OUTSIDE.");
        for (int no : new int[] {-1, 2, 4, LEAST, MOST}) {
            due(UNKNOWN, x.encore(no, 0), "encore(" + no + ", 0)");
            due(UNKNOWN, x.encore(no, 5), "encore(" + no + ", 5): both fit");
            due(UNKNOWN, x.encore(no, -1), "encore(" + no + ", -1): both fit");
        }
        for (int no : new int[] {-1, 5, LEAST, MOST}) {
            due(OUTSIDE, x.encore(0, no), "encore(0, " + no + ")");
        }
    }

    private static void as() {
        says("8", "A CLAPPER taken as a KIND (0 .. 4, as they are over one another)");
        WhichEncore x = told("shouter 5 99;known 1 1 1");
        does(x, 2);
        due(1, x.as(0, 0), "as(0, 0): by his own law");
        due(1, x.as(0, 4), "as(0, 4)");
        says("8", "ZEAL that he would have less by a WAIT now");
        due(0, told("sleeper 0 9").as(0, 3), "as(0, 3) of zeal 0");
        due(1, told("sleeper 1 9").as(0, 3), "as(0, 3) of zeal 1");
        due(2, told("sleeper 2 9").as(0, 3), "as(0, 3) of zeal 2");
        due(1, told("guest 1 9").as(0, 1), "as(0, 1) of one alone");
        due(0, told("guest 0 9").as(0, 1), "as(0, 1) of zeal 0");
        due(0, told("guest 1 9;fan 1 9").as(0, 1), "as(0, 1) beside one who claps");
        x = told("sleeper 5 1");
        does(x, 0);
        due(0, x.as(0, 3), "as(0, 3) of one who is gone");
        says("8", "UNKNOWN; OUTSIDE; NOT: he is none such.");
        x = told("guest 5 9");
        for (int no : new int[] {-1, 1, 8, LEAST, MOST}) {
            due(UNKNOWN, x.as(no, 0), "as(" + no + ", 0)");
            due(UNKNOWN, x.as(no, 4), "as(" + no + ", 4)");
            due(UNKNOWN, x.as(no, 5), "as(" + no + ", 5): both fit");
        }
        for (int no : new int[] {-1, 5, LEAST, MOST}) {
            due(OUTSIDE, x.as(0, no), "as(0, " + no + ")");
        }
        for (int none = 2; none <= 4; none++) {
            due(NOT, x.as(0, none), "as(0, " + none + ")");
        }
    }

    private static void encoreAs() {
        says("9", "An ENCORE taken as a KIND (0 .. 4)");
        WhichEncore x = told("fan 9 99;brilliant 1 1 1;known 1 1 1;arm 1");
        due(12, x.encoreAs(0, 0), "encoreAs(0, 0): by its own law");
        due(9, x.encoreAs(1, 4), "encoreAs(1, 4)");
        says("9", "ZEAL that one who CLAPS with 7, and came with 9, would have behind it.");
        does(x, 3);
        due(9, x.encoreAs(1, 0), "encoreAs(1, 0): it was played");
        due(12, x.encoreAs(0, 0), "encoreAs(0, 0): no arm is left");
        due(9, told("plain 1 1 1").encoreAs(0, 1), "encoreAs(0, 1) with nobody there");
        due(3, told("quiet 1 1 1").encoreAs(0, 2), "encoreAs(0, 2): half, cut");
        says("9", "UNKNOWN; OUTSIDE; NOT: it is none such.");
        x = told("plain 1 1 1");
        for (int no : new int[] {-1, 1, 4, LEAST, MOST}) {
            due(UNKNOWN, x.encoreAs(no, 0), "encoreAs(" + no + ", 0)");
            due(UNKNOWN, x.encoreAs(no, 4), "encoreAs(" + no + ", 4)");
            due(UNKNOWN, x.encoreAs(no, 5), "encoreAs(" + no + ", 5): both fit");
        }
        for (int no : new int[] {-1, 5, LEAST, MOST}) {
            due(OUTSIDE, x.encoreAs(0, no), "encoreAs(0, " + no + ")");
        }
        for (int none = 2; none <= 4; none++) {
            due(NOT, x.encoreAs(0, none), "encoreAs(0, " + none + ")");
        }
    }

    private static void can() {
        says("10", "1 a STEP (0 .. 5) can be now, 0.");
        WhichEncore x = told("fan 9 99;" + ALL_KINDS);
        for (int step = 0; step <= 5; step++) {
            due(1, x.can(step), "can(" + step + ")");
        }
        does(x, 2);
        due(0, x.can(2), "can(2): it was played");
        due(1, told("fan 0 9").can(0), "can(0) of noise 0");
        says("10", "UNKNOWN: no such ENCORE; OUTSIDE.");
        for (int encores = 0; encores <= 4; encores++) {
            x = told("fan 9 99" + ";plain 1 1 1".repeat(encores));
            for (int step = 2; step <= 5; step++) {
                due(step < 2 + encores ? 1 : UNKNOWN, x.can(step), "can(" + step + ") of " + encores);
            }
            for (int no : new int[] {-1, 6, LEAST, MOST}) {
                due(OUTSIDE, x.can(no), "can(" + no + ") of " + encores);
            }
        }
    }

    private static void doing() {
        says("11", "The STEP is done: NOISE then.");
        due(0, new WhichEncore().does(0), "does(0) with nobody there");
        due(0, told("sleeper 2 9").does(0), "does(0): the last zeal");
        due(0, told("fan 9 1").does(0), "does(0): the last train");
        due(5, told("fan 1 9").does(1), "does(1)");
        says("11", "UNKNOWN, OUTSIDE as can()");
        WhichEncore x = told("fan 0 9;plain 1 1 1");
        for (int step = 3; step <= 5; step++) {
            due(UNKNOWN, x.does(step), "does(" + step + ")");
        }
        for (int no : new int[] {-1, 6, LEAST, MOST}) {
            due(OUTSIDE, x.does(no), "does(" + no + ")");
        }
        says("11", "NOT: it can not be");
        due(NOT, x.does(1), "does(1) of noise 0");
        due(NOT, x.does(2), "does(2) of noise 0");
        due(0, x.count(11), "count(11) behind refused steps");
        due(0, x.count(2), "count(2) behind refused steps");
        due(0, x.does(0), "does(0) of noise 0");
        says("11", "FULL: it would be above MINUTE 999.");
        // That many waits are more calls than are promised to be answered; no shorter run gets there.
        x = told("fan 9 99;plain 9 9 1");
        waits(x, 998);
        due(0, x.does(0), "does(0) up to minute 999");
        due(FULL, x.does(0), "does(0) above minute 999");
        due(NOT, x.does(1), "does(1) at minute 999");
        due(NOT, x.does(2), "does(2) at minute 999: both fit");
        due(UNKNOWN, x.does(3), "does(3) at minute 999");
        due(OUTSIDE, x.does(6), "does(6) at minute 999");
        due(999, x.count(2), "count(2)");
        due(8, x.count(11), "count(11)");
    }

    private static void undo() {
        says("12", "The latest STEP is undone (the last 8 can be): how many can be undone yet.");
        WhichEncore x = told("fan 9 3;fan 9 99;plain 3 4 5;known 1 1 1");
        for (int step : new int[] {0, 1, 2, 3}) {
            String before = state(x);
            does(x, step);
            due(0, x.undo(), "undo() of step " + step);
            same(before, x, "step " + step + ", undone,");
        }
        for (int steps = 1; steps <= 17; steps++) {
            x = new WhichEncore();
            waits(x, steps);
            int can = Math.min(8, steps);
            due(can, x.count(11), "count(11) behind " + steps);
            for (int left = can - 1; left >= 0; left--) {
                due(left, x.undo(), "undo() behind " + steps);
            }
            due(steps - can, x.count(2), "count(2): as many as can be are undone");
            due(NOT, x.undo(), "undo() of one more behind " + steps);
        }
        says("12", "NOT: none.");
        due(NOT, new WhichEncore().undo(), "undo() of a new object");
        x = told("fan 9 9");
        due(NOT, x.undo(), "undo() behind a text");
        does(x, 1);
        x.undo();
        due(NOT, x.undo(), "undo() behind all undone");
        does(x, 1);
        x.keep(0);
        x.back(0);
        due(NOT, x.undo(), "undo() behind back()");
        due(13, x.count(3), "count(3) behind refused undo()");
    }

    private static void keep() {
        says("13", "All as it is (but THE ROW, what can be undone) is kept (k 0, 1): the MINUTE.");
        WhichEncore x = told("fan 9 3;fan 9 99;plain 3 4 5;known 1 1 1");
        due(0, x.keep(0), "keep(0) at minute 0");
        does(x, 0, 1, 2);
        due(4, x.keep(1), "keep(1) at minute 4");
        due(3, x.count(11), "count(11): what can be undone stays");
        x.row(0);
        due(2, x.undo(), "undo() behind keep()");
        counts(x, 2, 2, 1, 26, 10, 1, 1, 0, 3, 0, 1, 2, 0);
        due(0, x.back(0), "back(0)");
        counts(x, 2, 2, 0, 18, 10, 0, 0, 0, 3, 0, 1, 0, 0);
        due(4, x.back(1), "back(1)");
        counts(x, 2, 2, 4, 15, 6, 1, 4, 5, 2, 1, 1, 0, 0);
        says("13", "UNKNOWN: no such k.");
        for (int k : new int[] {-1, 2, LEAST, MOST}) {
            due(UNKNOWN, x.keep(k), "keep(" + k + ")");
        }
    }

    private static void back() {
        says("14", "It is as it was kept, nothing can be undone: the MINUTE.");
        WhichEncore x = told("fan 9 99");
        does(x, 0, 0);
        due(2, x.keep(0), "keep(0)");
        does(x, 0);
        due(2, x.back(0), "back(0)");
        due(0, x.count(11), "count(11)");
        due(NOT, x.undo(), "undo()");
        due(2, x.back(0), "back(0) again");
        does(x, 0);
        due(1, x.count(11), "count(11): steps behind it can be undone");
        says("14", "UNKNOWN; NOT: nothing was kept since the last text.");
        due(NOT, x.back(1), "back(1): the other was kept");
        for (int k : new int[] {-1, 2, LEAST, MOST}) {
            due(UNKNOWN, x.back(k), "back(" + k + ")");
            due(UNKNOWN, new WhichEncore().back(k), "back(" + k + ") when nothing was kept");
        }
        x.keep(1);
        tell(x, "arm 3");
        due(NOT, x.back(0), "back(0) behind a text");
        due(NOT, x.back(1), "back(1) behind a text");
        due(0, x.keep(1), "keep(1) behind a text");
        due(NOT, x.back(0), "back(0): the other was kept");
        due(0, x.back(1), "back(1)");
        put(x, "bravo");
        x.hall();
        due(0, x.back(1), "back(1) behind a text that was refused");
        x.erase();
        due(0, x.back(1), "back(1) behind a text that was erased");
    }

    public static void main(String[] args) {
        claps();
        minutes();
        waiting();
        bowing();
        playing();
        mostZealAndFame();
        kinds();
        clapper();
        encore();
        as();
        encoreAs();
        can();
        doing();
        undo();
        keep();
        back();
        finish();
    }
}
