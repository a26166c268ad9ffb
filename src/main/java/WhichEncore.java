/** A hall that claps, and one who bows, waits and plays encores: see README.md. */
public final class WhichEncore {
    public static final int NONE = -1, UNKNOWN = -2, OUTSIDE = -3, NOT = -4, FULL = -5;

    private static final int MOST_LETTERS = 160, MOST_CLAUSES = 14, MOST_NUMBERS = 3;
    private static final int MOST_CLAPPERS = 8, MOST_ENCORES = 4;
    private static final int MOST_ZEAL = 40, MOST_ARM = 30, LAST_MINUTE = 999;
    private static final int MOST_UNDONE = 8, MOST_KEPT = 2, MOST_IN_ROW = 12, MOST_IN_BEST = 6;
    private static final int MOST_WAITS = 99, MOST_SOUND = 400, TENTHS = 10;

    private static final int WAIT = 0, BOW = 1, FIRST_ENCORE = 2;
    private static final int LAST_STEP = FIRST_ENCORE + MOST_ENCORES - 1;
    private static final int FIRST_BOW = 4, PLAIN_CHEER = 2, BRILLIANT_CHEER = 5;

    private static final int GUEST = 0, FAN = 1, SLEEPER = 2, SHOUTER = 3;
    private static final int PLAIN = 0, QUIET = 1, BRILLIANT = 2, KNOWN = 3;

    // The trees of kinds: at each kind's number there (one more than its own) the kind over it.
    private static final int[] OVER_CLAPPERS = {NONE, 0, 1, 0, 2};
    private static final int[] OVER_ENCORES = {NONE, 0, 0, 1, 3};
    private static final int LAST_TREE_KIND = 4;

    // What a clause does; the bounds of its numbers stand in the rows below, three places a deed.
    private static final int ALL_ANEW = 0, ONE_COMES = 1, ONE_PREPARED = 2, SET_ARM = 3,
        SET_CLOSE = 4, SET_HIRE = 5, ALL_LEAVE = 6;
    private static final int[] HOW_MANY_NUMBERS = {0, 2, 3, 1, 1, 1, 0};
    private static final int[] LOWEST = {
        0, 0, 0,  0, 1, 0,  1, 1, 0,  0, 0, 0,  0, 0, 0,  0, 0, 0,  0, 0, 0};
    private static final int[] HIGHEST = {
        0, 0, 0,  20, 99, 0,  9, 9, 30,  30, 0, 0,  99, 0, 0,  9, 0, 0,  0, 0, 0};

    private final Told told = new Told();
    private final Text text = new Text();
    private final Evening now = new Evening(told);
    private final Evening foretold = new Evening(told);
    private final Search search = new Search(told);
    private final Past past = new Past(told);
    private final Evening[] kept = new Evening[MOST_KEPT];
    private final boolean[] isKept = new boolean[MOST_KEPT];
    private final int[] rowSteps = new int[MOST_IN_ROW];
    private int rowLength;

    public WhichEncore() {
        for (int k = 0; k < MOST_KEPT; k++) {
            kept[k] = new Evening(told);
        }
        now.begin();
    }

    // ---- what is told

    public int write(int letter) {
        if (letter < 0 || letter > 255) {
            return OUTSIDE;
        }
        return text.append(letter) ? text.length : FULL;
    }

    public int erase() {
        int had = text.length;
        text.length = 0;
        return had;
    }

    public int fault() {
        return text.findFault(told);
    }

    public int hall() {
        if (text.findFault(told) != NONE) {
            return NOT;
        }
        told.copyFrom(text.draft);
        text.length = 0;
        beginAnew();
        return text.clauses;
    }

    public int clapper(int clapper, int what) {
        if (!told.hasClapper(clapper)) {
            return UNKNOWN;
        }
        switch (what) {
            case 0: return told.clapperKind[clapper];
            case 1: return now.zeal[clapper];
            case 2: return told.train[clapper];
            case 3: return now.isThere(clapper) ? 1 : 0;
            case 4: return now.isClapping(clapper) ? 1 : 0;
            case 5: return told.came[clapper];
            default: return OUTSIDE;
        }
    }

    public int encore(int encore, int what) {
        if (!told.hasEncore(encore)) {
            return UNKNOWN;
        }
        switch (what) {
            case 0: return told.encoreKind[encore];
            case 1: return told.minutes[encore];
            case 2: return told.takesArm[encore];
            case 3: return told.worth[encore];
            case 4: return now.wasPlayed(encore) ? 1 : 0;
            default: return OUTSIDE;
        }
    }

    public int as(int clapper, int kind) {
        if (!told.hasClapper(clapper)) {
            return UNKNOWN;
        }
        if (kind < 0 || kind > LAST_TREE_KIND) {
            return OUTSIDE;
        }
        if (!isUnder(OVER_CLAPPERS, told.clapperKind[clapper] + 1, kind)) {
            return NOT;
        }
        return now.lessByWait(clapper, now.whoClaps());
    }

    public int encoreAs(int encore, int kind) {
        if (!told.hasEncore(encore)) {
            return UNKNOWN;
        }
        if (kind < 0 || kind > LAST_TREE_KIND) {
            return OUTSIDE;
        }
        if (!isUnder(OVER_ENCORES, told.encoreKind[encore] + 1, kind)) {
            return NOT;
        }
        return zealBehind(told.encoreKind[encore], 7, 9);
    }

    // ---- the evening

    public int can(int step) {
        int refusal = refusalOf(step);
        if (refusal != 0) {
            return refusal;
        }
        return now.isPossible(step) ? 1 : 0;
    }

    public int does(int step) {
        int refusal = refusalOf(step);
        if (refusal != 0) {
            return refusal;
        }
        if (!now.isPossible(step)) {
            return NOT;
        }
        if (now.minute + told.minutesOf(step) > LAST_MINUTE) {
            return FULL;
        }
        past.remember(now);
        now.take(step);
        return now.noise();
    }

    public int undo() {
        return past.recall(now) ? past.size : NOT;
    }

    public int keep(int k) {
        if (k < 0 || k >= MOST_KEPT) {
            return UNKNOWN;
        }
        kept[k].copyFrom(now);
        isKept[k] = true;
        return now.minute;
    }

    public int back(int k) {
        if (k < 0 || k >= MOST_KEPT) {
            return UNKNOWN;
        }
        if (!isKept[k]) {
            return NOT;
        }
        now.copyFrom(kept[k]);
        past.size = 0;
        return now.minute;
    }

    // ---- foretold

    public int till() {
        foretold.copyFrom(now);
        int waits = 0;
        // The last train goes at minute 99, so no more waits than that can be needed.
        while (waits < MOST_WAITS && foretold.noise() > 0) {
            foretold.take(WAIT);
            waits++;
        }
        return waits;
    }

    public int there(int n) {
        if (n < 0 || n > MOST_WAITS) {
            return OUTSIDE;
        }
        foretellWaits(n);
        return foretold.there;
    }

    public int sound(int n) {
        if (n < 0 || n > MOST_WAITS) {
            return OUTSIDE;
        }
        foretellWaits(n);
        return foretold.noise();
    }

    public int best(int i) {
        if (i < NONE) {
            return OUTSIDE;
        }
        search.lookFrom(now, now.arm);
        if (i == NONE) {
            return search.bestGrowth;
        }
        return i < search.bestLength ? search.bestSteps[i] : NONE;
    }

    public int row(int step) {
        int refusal = refusalOf(step);
        if (refusal != 0) {
            return refusal;
        }
        if (rowLength >= MOST_IN_ROW) {
            return FULL;
        }
        rowSteps[rowLength] = step;
        rowLength++;
        return rowLength;
    }

    public int tear() {
        int had = rowLength;
        rowLength = 0;
        return had;
    }

    public int judge(int what) {
        if (what != 0 && what != 1) {
            return OUTSIDE;
        }
        foretold.copyFrom(now);
        int ahead = 0;
        while (ahead < rowLength && foretold.isPossible(rowSteps[ahead])) {
            foretold.take(rowSteps[ahead]);
            ahead++;
        }
        if (what == 1) {
            return foretold.noise();
        }
        return ahead < rowLength ? ahead : NONE;
    }

    public long stay(int n, int p, int part) {
        if (n < 0 || n > MOST_CLAPPERS || p < 0 || p > TENTHS || part < 0 || part > 1) {
            return OUTSIDE;
        }
        int guests = Integer.bitCount(now.there);
        long above = waysToStay(guests, n, p);
        long below = power(TENTHS, guests);
        long common = commonDivisor(above, below);
        if (common < 1) {
            common = 1;
        }
        return part == 0 ? above / common : below / common;
    }

    public int gone(int number, int what) {
        if (number < 0 || number > MOST_SOUND || what < 0 || what > 1) {
            return OUTSIDE;
        }
        int clapping = now.whoClaps();
        int sets = 0;
        int least = NONE;
        for (int set = 0; set < 1 << MOST_CLAPPERS; set++) {
            if ((set & ~clapping) == 0 && now.zealOf(set) == number) {
                sets++;
                if (least == NONE) {
                    least = set;
                }
            }
        }
        return what == 0 ? sets : least;
    }

    public int prepared(int what) {
        if (what < 0 || what > 1) {
            return OUTSIDE;
        }
        int mostWorth = 0;
        int leastSet = 0;
        for (int set = 1; set < 1 << told.encores; set++) {
            int worth = told.sumOver(told.worth, set);
            if (told.sumOver(told.takesArm, set) <= now.arm && worth > mostWorth) {
                mostWorth = worth;
                leastSet = set;
            }
        }
        return what == 0 ? mostWorth : leastSet;
    }

    public int other(int arm) {
        if (arm < 0 || arm > MOST_ARM) {
            return OUTSIDE;
        }
        search.lookFrom(now, arm);
        int withOtherArm = search.bestGrowth;
        search.lookFrom(now, now.arm);
        return withOtherArm - search.bestGrowth;
    }

    public int count(int what) {
        switch (what) {
            case 0: return told.clappers;
            case 1: return told.encores;
            case 2: return now.minute;
            case 3: return now.noise();
            case 4: return now.arm;
            case 5: return now.bows;
            case 6: return now.paid;
            case 7: return now.fame;
            case 8: return now.there;
            case 9: return now.played;
            case 10: return rowLength;
            case 11: return past.size;
            case 12: return text.length;
            default: return OUTSIDE;
        }
    }

    // ---- helpers

    private void beginAnew() {
        now.begin();
        rowLength = 0;
        past.size = 0;
        for (int k = 0; k < MOST_KEPT; k++) {
            isKept[k] = false;
        }
    }

    /** 0 if the number names a step that there is, whether it can be now or not. */
    private int refusalOf(int step) {
        if (step < WAIT || step > LAST_STEP) {
            return OUTSIDE;
        }
        if (step >= FIRST_ENCORE && !told.hasEncore(step - FIRST_ENCORE)) {
            return UNKNOWN;
        }
        return 0;
    }

    private void foretellWaits(int n) {
        foretold.copyFrom(now);
        for (int wait = 0; wait < n; wait++) {
            foretold.take(WAIT);
        }
    }

    private static boolean isUnder(int[] over, int kind, int wanted) {
        int at = kind;
        for (int level = 0; level < over.length; level++) {
            if (at == wanted) {
                return true;
            }
            if (at < 0 || at >= over.length) {
                return false;
            }
            at = over[at];
        }
        return false;
    }

    private static int zealBehind(int encoreKind, int zeal, int came) {
        if (encoreKind == QUIET) {
            return zeal / 2;
        }
        if (encoreKind == BRILLIANT) {
            return Math.min(MOST_ZEAL, zeal + BRILLIANT_CHEER);
        }
        if (encoreKind == KNOWN) {
            return Math.min(MOST_ZEAL, came);
        }
        return zeal > 0 ? Math.min(MOST_ZEAL, zeal + PLAIN_CHEER) : zeal;
    }

    /** Of 10 to the power of guests equally likely evenings: those in which n at least stay. */
    private static long waysToStay(int guests, int n, int p) {
        long ways = 0;
        long choices = 1;
        for (int staying = 0; staying <= guests; staying++) {
            if (staying >= n) {
                ways += choices * power(TENTHS - p, staying) * power(p, guests - staying);
            }
            choices = choices * (guests - staying) / (staying + 1);
        }
        return ways;
    }

    private static long power(int base, int exponent) {
        long product = 1;
        for (int i = 0; i < exponent; i++) {
            product *= base;
        }
        return product;
    }

    private static long commonDivisor(long first, long second) {
        long a = first;
        long b = second;
        // Both are 100000000 at most: Euclid needs far fewer rounds than this.
        for (int round = 0; round < 100 && b != 0; round++) {
            long rest = a % b;
            a = b;
            b = rest;
        }
        return a;
    }

    private enum Clause {
        HALL("hall", ALL_ANEW, 0),
        GUEST_COMES("guest", ONE_COMES, GUEST),
        FAN_COMES("fan", ONE_COMES, FAN),
        SLEEPER_COMES("sleeper", ONE_COMES, SLEEPER),
        SHOUTER_COMES("shouter", ONE_COMES, SHOUTER),
        PLAIN_ONE("plain", ONE_PREPARED, PLAIN),
        QUIET_ONE("quiet", ONE_PREPARED, QUIET),
        BRILLIANT_ONE("brilliant", ONE_PREPARED, BRILLIANT),
        KNOWN_ONE("known", ONE_PREPARED, KNOWN),
        ARM("arm", SET_ARM, 0),
        CLOSE("close", SET_CLOSE, 0),
        HIRE("hire", SET_HIRE, 0),
        EMPTY("empty", ALL_LEAVE, 0);

        final String word;
        final int deed;
        final int kind;

        Clause(String word, int deed, int kind) {
            this.word = word;
            this.deed = deed;
            this.kind = kind;
        }
    }

    /** What the texts have told: it stays while an evening goes on. */
    private static final class Told {
        final int[] clapperKind = new int[MOST_CLAPPERS];
        final int[] came = new int[MOST_CLAPPERS];
        final int[] train = new int[MOST_CLAPPERS];
        final int[] encoreKind = new int[MOST_ENCORES];
        final int[] minutes = new int[MOST_ENCORES];
        final int[] takesArm = new int[MOST_ENCORES];
        final int[] worth = new int[MOST_ENCORES];
        int clappers;
        int encores;
        int arm;
        int close;
        int hire;

        Told() {
            beAsAtFirst();
        }

        void beAsAtFirst() {
            clappers = 0;
            encores = 0;
            arm = 10;
            close = 60;
            hire = 1;
        }

        void copyFrom(Told from) {
            System.arraycopy(from.clapperKind, 0, clapperKind, 0, MOST_CLAPPERS);
            System.arraycopy(from.came, 0, came, 0, MOST_CLAPPERS);
            System.arraycopy(from.train, 0, train, 0, MOST_CLAPPERS);
            System.arraycopy(from.encoreKind, 0, encoreKind, 0, MOST_ENCORES);
            System.arraycopy(from.minutes, 0, minutes, 0, MOST_ENCORES);
            System.arraycopy(from.takesArm, 0, takesArm, 0, MOST_ENCORES);
            System.arraycopy(from.worth, 0, worth, 0, MOST_ENCORES);
            clappers = from.clappers;
            encores = from.encores;
            arm = from.arm;
            close = from.close;
            hire = from.hire;
        }

        boolean hasClapper(int clapper) {
            return clapper >= 0 && clapper < clappers;
        }

        boolean hasEncore(int encore) {
            return encore >= 0 && encore < encores;
        }

        int minutesOf(int step) {
            if (step == WAIT) {
                return 1;
            }
            return hasEncore(step - FIRST_ENCORE) ? minutes[step - FIRST_ENCORE] : 0;
        }

        int sumOver(int[] ofEncores, int set) {
            int sum = 0;
            for (int encore = 0; encore < encores; encore++) {
                if ((set >> encore & 1) != 0) {
                    sum += ofEncores[encore];
                }
            }
            return sum;
        }

        boolean hasRoomFor(int deed) {
            if (deed == ONE_COMES) {
                return clappers < MOST_CLAPPERS;
            }
            return deed != ONE_PREPARED || encores < MOST_ENCORES;
        }

        void carryOut(int deed, int kind, int[] numbers) {
            switch (deed) {
                case ALL_ANEW: beAsAtFirst(); break;
                case ONE_COMES: addClapper(kind, numbers); break;
                case ONE_PREPARED: addEncore(kind, numbers); break;
                case SET_ARM: arm = numbers[0]; break;
                case SET_CLOSE: close = numbers[0]; break;
                case SET_HIRE: hire = numbers[0]; break;
                default: clappers = 0; break;
            }
        }

        private void addClapper(int kind, int[] numbers) {
            if (clappers < MOST_CLAPPERS) {
                clapperKind[clappers] = kind;
                came[clappers] = numbers[0];
                train[clappers] = numbers[1];
                clappers++;
            }
        }

        private void addEncore(int kind, int[] numbers) {
            if (encores < MOST_ENCORES) {
                encoreKind[encores] = kind;
                minutes[encores] = numbers[0];
                takesArm[encores] = numbers[1];
                worth[encores] = numbers[2];
                encores++;
            }
        }
    }

    /** The text, and how it is read: on a draft, so that a fault leaves what was told alone. */
    private static final class Text {
        final Told draft = new Told();
        int length;
        int clauses;
        private final char[] letters = new char[MOST_LETTERS];
        private final int[] numbers = new int[MOST_NUMBERS];
        private final Clause[] allClauses = Clause.values();
        // Where reading stands; a reader that fails leaves it at the fault.
        private int place;

        boolean append(int letter) {
            if (length >= MOST_LETTERS) {
                return false;
            }
            letters[length] = (char) letter;
            length++;
            return true;
        }

        int findFault(Told told) {
            draft.copyFrom(told);
            place = 0;
            clauses = 0;
            while (clauses < MOST_CLAUSES) {
                if (!readClause()) {
                    return place;
                }
                clauses++;
                skipBlanks();
                if (place >= length) {
                    return NONE;
                }
                // Behind the last clause that may be, none can follow, so no ; can stand.
                if (letters[place] != ';' || clauses == MOST_CLAUSES) {
                    return place;
                }
                place++;
            }
            return place;
        }

        private boolean readClause() {
            skipBlanks();
            int end = endOfRow('a', 'z');
            Clause clause = clauseUpTo(end);
            if (clause == null || !draft.hasRoomFor(clause.deed)) {
                return false;
            }
            place = end;
            for (int i = 0; i < HOW_MANY_NUMBERS[clause.deed]; i++) {
                int bounds = clause.deed * MOST_NUMBERS + i;
                if (!readNumber(i, LOWEST[bounds], HIGHEST[bounds])) {
                    return false;
                }
            }
            draft.carryOut(clause.deed, clause.kind, numbers);
            return true;
        }

        private boolean readNumber(int i, int lowest, int highest) {
            skipBlanks();
            int end = endOfRow('0', '9');
            if (end == place || end - place > 2) {
                return false;
            }
            int value = 0;
            for (int at = place; at < end; at++) {
                value = value * 10 + letters[at] - '0';
            }
            if (value < lowest || value > highest) {
                return false;
            }
            numbers[i] = value;
            place = end;
            return true;
        }

        private void skipBlanks() {
            while (place < length && letters[place] == ' ') {
                place++;
            }
        }

        private int endOfRow(char first, char last) {
            int end = place;
            while (end < length && letters[end] >= first && letters[end] <= last) {
                end++;
            }
            return end;
        }

        private Clause clauseUpTo(int end) {
            for (int c = 0; c < allClauses.length; c++) {
                if (isWordUpTo(allClauses[c].word, end)) {
                    return allClauses[c];
                }
            }
            return null;
        }

        private boolean isWordUpTo(String word, int end) {
            if (word.length() != end - place) {
                return false;
            }
            for (int i = 0; i < word.length(); i++) {
                if (word.charAt(i) != letters[place + i]) {
                    return false;
                }
            }
            return true;
        }
    }

    /** How it stands in the hall at one moment. */
    private static final class Evening {
        final int[] zeal = new int[MOST_CLAPPERS];
        int there;
        int minute;
        int arm;
        int played;
        int bows;
        int paid;
        int fame;
        private boolean knownPlayed;
        private final Told told;

        Evening(Told told) {
            this.told = told;
        }

        void begin() {
            System.arraycopy(told.came, 0, zeal, 0, MOST_CLAPPERS);
            there = (1 << told.clappers) - 1;
            minute = 0;
            arm = told.arm;
            played = 0;
            bows = 0;
            paid = 0;
            fame = 0;
            knownPlayed = false;
        }

        void copyFrom(Evening from) {
            System.arraycopy(from.zeal, 0, zeal, 0, MOST_CLAPPERS);
            there = from.there;
            minute = from.minute;
            arm = from.arm;
            played = from.played;
            bows = from.bows;
            paid = from.paid;
            fame = from.fame;
            knownPlayed = from.knownPlayed;
        }

        boolean isThere(int clapper) {
            return (there >> clapper & 1) != 0;
        }

        boolean isClapping(int clapper) {
            return (there >> clapper & 1) != 0 && zeal[clapper] > 0;
        }

        boolean wasPlayed(int encore) {
            return (played >> encore & 1) != 0;
        }

        int whoClaps() {
            int clapping = 0;
            for (int clapper = 0; clapper < told.clappers; clapper++) {
                if (isClapping(clapper)) {
                    clapping |= 1 << clapper;
                }
            }
            return clapping;
        }

        int zealOf(int set) {
            int sum = 0;
            for (int clapper = 0; clapper < told.clappers; clapper++) {
                if ((set >> clapper & 1) != 0) {
                    sum += zeal[clapper];
                }
            }
            return sum;
        }

        int noise() {
            return zealOf(there);
        }

        /** clapping: who claps ahead of the wait, since all lose their zeal at once. */
        int lessByWait(int clapper, int clapping) {
            if ((clapping >> clapper & 1) == 0) {
                return 0;
            }
            int beside = whoIsBeside(clapper);
            switch (told.clapperKind[clapper]) {
                case SLEEPER: return Math.min(2, zeal[clapper]);
                case SHOUTER: return knownPlayed ? 1 : 0;
                case FAN: return (beside & clapping) != 0 ? 0 : 1;
                default: return beside != 0 && (beside & ~clapping) == 0 ? 0 : 1;
            }
        }

        boolean isPossible(int step) {
            if (step == WAIT) {
                return true;
            }
            return (step == BOW || isReady(step - FIRST_ENCORE)) && noise() > 0;
        }

        int moreByBow() {
            return knownPlayed ? 0 : Math.max(0, FIRST_BOW - bows);
        }

        void take(int step) {
            if (step == WAIT) {
                waitOne();
            } else if (step == BOW) {
                bowOnce();
            } else if (told.hasEncore(step - FIRST_ENCORE)) {
                play(step - FIRST_ENCORE);
            }
        }

        private boolean isReady(int encore) {
            return told.hasEncore(encore) && !wasPlayed(encore) && told.takesArm[encore] <= arm;
        }

        private void waitOne() {
            int clapping = whoClaps();
            for (int clapper = 0; clapper < told.clappers; clapper++) {
                zeal[clapper] -= lessByWait(clapper, clapping);
            }
            letPass(1);
        }

        private void bowOnce() {
            int more = moreByBow();
            for (int clapper = 0; clapper < told.clappers; clapper++) {
                if (isClapping(clapper)) {
                    zeal[clapper] = Math.min(MOST_ZEAL, zeal[clapper] + more);
                }
            }
            bows++;
        }

        private void play(int encore) {
            int kind = told.encoreKind[encore];
            letPass(told.minutes[encore]);
            arm -= told.takesArm[encore];
            played |= 1 << encore;
            knownPlayed = knownPlayed || kind == KNOWN;
            for (int clapper = 0; clapper < told.clappers; clapper++) {
                if (isThere(clapper)) {
                    zeal[clapper] = zealBehind(kind, zeal[clapper], told.came[clapper]);
                }
            }
            fame += told.worth[encore] * Integer.bitCount(there);
        }

        private void letPass(int minutes) {
            for (int i = 0; i < minutes; i++) {
                paid += minute >= told.close ? 2 * told.hire : told.hire;
                minute++;
            }
            for (int clapper = 0; clapper < told.clappers; clapper++) {
                if (told.train[clapper] <= minute) {
                    there &= ~(1 << clapper);
                }
            }
        }

        private int whoIsBeside(int clapper) {
            int all = (1 << told.clappers) - 1;
            int self = 1 << clapper;
            return (self >> 1 | self << 1) & all;
        }
    }

    /** The evening as it stood ahead of each of the last steps. */
    private static final class Past {
        int size;
        private int next;
        private final Evening[] ring = new Evening[MOST_UNDONE];

        Past(Told told) {
            for (int i = 0; i < MOST_UNDONE; i++) {
                ring[i] = new Evening(told);
            }
        }

        void remember(Evening evening) {
            ring[next].copyFrom(evening);
            next = (next + 1) % MOST_UNDONE;
            size = Math.min(MOST_UNDONE, size + 1);
        }

        boolean recall(Evening evening) {
            if (size == 0) {
                return false;
            }
            next = (next + MOST_UNDONE - 1) % MOST_UNDONE;
            size--;
            evening.copyFrom(ring[next]);
            return true;
        }
    }

    /** Looks for the best row of bows and encores: level d holds the evening behind d steps. */
    private static final class Search {
        int bestGrowth;
        int bestLength;
        final int[] bestSteps = new int[MOST_IN_BEST];
        private final int[] steps = new int[MOST_IN_BEST];
        private final Evening[] levels = new Evening[MOST_IN_BEST + 1];

        Search(Told told) {
            for (int depth = 0; depth <= MOST_IN_BEST; depth++) {
                levels[depth] = new Evening(told);
            }
        }

        void lookFrom(Evening start, int arm) {
            levels[0].copyFrom(start);
            levels[0].arm = arm;
            bestGrowth = 0;
            bestLength = 0;
            lookDeeper(0);
        }

        private void lookDeeper(int depth) {
            if (depth >= MOST_IN_BEST) {
                return;
            }
            for (int step = BOW; step <= LAST_STEP; step++) {
                if (isWorthATry(step, depth) && levels[depth].isPossible(step)) {
                    lookBehind(step, depth);
                }
            }
        }

        private void lookBehind(int step, int depth) {
            steps[depth] = step;
            levels[depth + 1].copyFrom(levels[depth]);
            levels[depth + 1].take(step);
            compare(depth + 1);
            lookDeeper(depth + 1);
        }

        /** A bow that moves nobody, or that no encore can follow, only makes a row longer. */
        private boolean isWorthATry(int step, int depth) {
            return step != BOW || depth + 1 < MOST_IN_BEST && levels[depth].moreByBow() > 0;
        }

        /** Rows of one length come in the order of their steps, so the first found stays. */
        private void compare(int length) {
            int fame = levels[length].fame - levels[0].fame;
            int growth = fame - (levels[length].paid - levels[0].paid);
            if (growth > bestGrowth || growth == bestGrowth && length < bestLength) {
                bestGrowth = growth;
                bestLength = length;
                System.arraycopy(steps, 0, bestSteps, 0, length);
            }
        }
    }
}
