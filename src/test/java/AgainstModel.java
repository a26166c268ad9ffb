import java.math.BigInteger;
import java.util.ArrayList;
import java.util.Arrays;
import java.util.List;
import java.util.Random;
import java.util.regex.Matcher;
import java.util.regex.Pattern;

// Random runs of calls, each answer held against a second writing of the document.
public final class AgainstModel {
    private static final int NONE = -1, UNKNOWN = -2, OUTSIDE = -3, NOT = -4, FULL = -5;

    private record Person(String kind, int came, int train) { }

    private record Piece(String kind, int minutes, int arm, int worth) { }

    private record House(List<Person> people, List<Piece> pieces, int arm, int close, int hire) {
        static House atFirst() {
            return new House(List.of(), List.of(), 10, 60, 1);
        }
    }

    /** What is at one moment; a step makes a new one. */
    private record Moment(House house, int minute, List<Integer> zeal, List<Boolean> here, int arm,
                          List<Integer> played, int bows, int paid, int fame) {
        static Moment opening(House h) {
            List<Integer> zeal = new ArrayList<>();
            List<Boolean> here = new ArrayList<>();
            for (Person p : h.people) {
                zeal.add(p.came);
                here.add(true);
            }
            return new Moment(h, 0, zeal, here, h.arm, List.of(), 0, 0, 0);
        }

        boolean claps(int i) {
            return i >= 0 && i < zeal.size() && here.get(i) && zeal.get(i) > 0;
        }

        int noise() {
            int sum = 0;
            for (int i = 0; i < zeal.size(); i++) {
                sum += claps(i) ? zeal.get(i) : 0;
            }
            return sum;
        }

        boolean knownPlayed() {
            return played.stream().anyMatch(e -> house.pieces.get(e).kind.equals("known"));
        }

        int loss(int i) {
            if (!claps(i)) {
                return 0;
            }
            int neighbours = 0;
            int clapping = 0;
            for (int j : new int[] {i - 1, i + 1}) {
                if (j >= 0 && j < zeal.size()) {
                    neighbours++;
                    clapping += claps(j) ? 1 : 0;
                }
            }
            return switch (house.people.get(i).kind) {
                case "guest" -> neighbours > 0 && clapping == neighbours ? 0 : 1;
                case "fan" -> clapping > 0 ? 0 : 1;
                case "sleeper" -> zeal.get(i) >= 2 ? 2 : 1;
                default -> knownPlayed() ? 1 : 0;
            };
        }

        boolean can(int step) {
            if (step == 0) {
                return true;
            }
            if (noise() == 0) {
                return false;
            }
            return step == 1 || !played.contains(step - 2) && house.pieces.get(step - 2).arm <= arm;
        }

        Moment minuteBy() {
            int pays = minute >= house.close ? house.hire * 2 : house.hire;
            List<Boolean> stillHere = new ArrayList<>();
            for (int i = 0; i < here.size(); i++) {
                stillHere.add(here.get(i) && house.people.get(i).train > minute + 1);
            }
            return new Moment(house, minute + 1, zeal, stillHere, arm, played, bows, paid + pays, fame);
        }

        Moment withZeal(List<Integer> z) {
            return new Moment(house, minute, z, here, arm, played, bows, paid, fame);
        }

        Moment withArm(int a) {
            return new Moment(house, minute, zeal, here, a, played, bows, paid, fame);
        }

        Moment behind(int step) {
            List<Integer> z = new ArrayList<>(zeal);
            if (step == 0) {
                for (int i = 0; i < z.size(); i++) {
                    z.set(i, zeal.get(i) - loss(i));
                }
                return withZeal(z).minuteBy();
            }
            if (step == 1) {
                int gain = knownPlayed() || bows > 4 ? 0 : 4 - bows;
                for (int i = 0; i < z.size(); i++) {
                    z.set(i, claps(i) ? Math.min(40, zeal.get(i) + gain) : zeal.get(i));
                }
                return new Moment(house, minute, z, here, arm, played, bows + 1, paid, fame);
            }
            Piece piece = house.pieces.get(step - 2);
            Moment m = this;
            for (int i = 0; i < piece.minutes; i++) {
                m = m.minuteBy();
            }
            for (int i = 0; i < z.size(); i++) {
                if (m.here.get(i)) {
                    z.set(i, behindPiece(piece.kind, zeal.get(i), house.people.get(i).came));
                }
            }
            List<Integer> nowPlayed = new ArrayList<>(played);
            nowPlayed.add(step - 2);
            int listeners = (int) m.here.stream().filter(h -> h).count();
            return new Moment(house, m.minute, z, m.here, arm - piece.arm, nowPlayed, bows, m.paid,
                fame + piece.worth * listeners);
        }

        static int behindPiece(String kind, int zeal, int came) {
            int z = switch (kind) {
                case "plain" -> zeal == 0 ? 0 : zeal + 2;
                case "quiet" -> zeal >> 1;
                case "brilliant" -> zeal + 5;
                default -> came;
            };
            return z > 40 ? 40 : z;
        }

        int hereBits() {
            int bits = 0;
            for (int i = 0; i < here.size(); i++) {
                bits += here.get(i) ? 1 << i : 0;
            }
            return bits;
        }
    }

    /** All calls, as the document tells them. */
    private static final class Model {
        private House house = House.atFirst();
        private Moment now = Moment.opening(house);
        private final StringBuilder text = new StringBuilder();
        private final List<Moment> undo = new ArrayList<>();
        private final Moment[] kept = new Moment[2];
        private final List<Integer> row = new ArrayList<>();
        private House readHouse;
        private int readClauses;

        int readText() {
            List<String> tokens = new ArrayList<>();
            List<Integer> places = new ArrayList<>();
            Matcher m = Pattern.compile("[a-z]+|[0-9]+|[^ ]", Pattern.DOTALL).matcher(text);
            while (m.find()) {
                tokens.add(m.group());
                places.add(m.start());
            }
            tokens.add("");
            places.add(text.length());
            readHouse = house;
            readClauses = 0;
            int at = 0;
            while (true) {
                String word = tokens.get(at);
                int[][] bounds = boundsOf(word);
                if (bounds == null) {
                    return places.get(at);
                }
                boolean person = bounds.length == 2;
                boolean piece = bounds.length == 3;
                if (person && readHouse.people.size() == 8 || piece && readHouse.pieces.size() == 4) {
                    return places.get(at);
                }
                at++;
                int[] n = new int[bounds.length];
                for (int i = 0; i < n.length; i++, at++) {
                    if (!tokens.get(at).matches("[0-9]{1,2}")) {
                        return places.get(at);
                    }
                    n[i] = Integer.parseInt(tokens.get(at));
                    if (n[i] < bounds[i][0] || n[i] > bounds[i][1]) {
                        return places.get(at);
                    }
                }
                readHouse = told(readHouse, word, n);
                readClauses++;
                if (tokens.get(at).isEmpty()) {
                    return NONE;
                }
                if (!tokens.get(at).equals(";") || readClauses == 14) {
                    return places.get(at);
                }
                at++;
            }
        }

        static int[][] boundsOf(String word) {
            return switch (word) {
                case "hall", "empty" -> new int[][] {};
                case "guest", "fan", "sleeper", "shouter" -> new int[][] {{0, 20}, {1, 99}};
                case "plain", "quiet", "brilliant", "known" -> new int[][] {{1, 9}, {1, 9}, {0, 30}};
                case "arm" -> new int[][] {{0, 30}};
                case "close" -> new int[][] {{0, 99}};
                case "hire" -> new int[][] {{0, 9}};
                default -> null;
            };
        }

        static House told(House h, String word, int[] n) {
            switch (word) {
                case "hall": return House.atFirst();
                case "empty": return new House(List.of(), h.pieces, h.arm, h.close, h.hire);
                case "arm": return new House(h.people, h.pieces, n[0], h.close, h.hire);
                case "close": return new House(h.people, h.pieces, h.arm, n[0], h.hire);
                case "hire": return new House(h.people, h.pieces, h.arm, h.close, n[0]);
                default: break;
            }
            List<Person> people = new ArrayList<>(h.people);
            List<Piece> pieces = new ArrayList<>(h.pieces);
            if (n.length == 2) {
                people.add(new Person(word, n[0], n[1]));
            } else {
                pieces.add(new Piece(word, n[0], n[1], n[2]));
            }
            return new House(people, pieces, h.arm, h.close, h.hire);
        }

        long call(String name, int a, int b, int c) {
            return switch (name) {
                case "write" -> write(a);
                case "erase" -> erase();
                case "fault" -> readText();
                case "hall" -> hall();
                case "clapper" -> clapper(a, b);
                case "encore" -> encore(a, b);
                case "as" -> as(a, b);
                case "encoreAs" -> encoreAs(a, b);
                case "can" -> no(a) != 0 ? no(a) : now.can(a) ? 1 : 0;
                case "does" -> does(a);
                case "undo" -> undo();
                case "keep" -> keep(a);
                case "back" -> back(a);
                case "till" -> till();
                case "there" -> a < 0 || a > 99 ? OUTSIDE : waits(a).hereBits();
                case "sound" -> a < 0 || a > 99 ? OUTSIDE : waits(a).noise();
                case "best" -> best(a);
                case "row" -> row(a);
                case "tear" -> tear();
                case "judge" -> judge(a);
                case "stay" -> stay(a, b, c);
                case "gone" -> gone(a, b);
                case "prepared" -> prepared(a);
                case "other" -> a < 0 || a > 30 ? OUTSIDE : worth(now.withArm(a)) - worth(now);
                default -> count(a);
            };
        }

        int write(int a) {
            if (a < 0 || a > 255) {
                return OUTSIDE;
            }
            if (text.length() == 160) {
                return FULL;
            }
            text.append((char) a);
            return text.length();
        }

        int erase() {
            int had = text.length();
            text.setLength(0);
            return had;
        }

        int hall() {
            if (readText() != NONE) {
                return NOT;
            }
            house = readHouse;
            now = Moment.opening(house);
            text.setLength(0);
            undo.clear();
            row.clear();
            Arrays.fill(kept, null);
            return readClauses;
        }

        int clapper(int a, int b) {
            if (a < 0 || a >= house.people.size()) {
                return UNKNOWN;
            }
            Person p = house.people.get(a);
            return switch (b) {
                case 0 -> List.of("guest", "fan", "sleeper", "shouter").indexOf(p.kind);
                case 1 -> now.zeal.get(a);
                case 2 -> p.train;
                case 3 -> now.here.get(a) ? 1 : 0;
                case 4 -> now.claps(a) ? 1 : 0;
                case 5 -> p.came;
                default -> OUTSIDE;
            };
        }

        int encore(int a, int b) {
            if (a < 0 || a >= house.pieces.size()) {
                return UNKNOWN;
            }
            Piece p = house.pieces.get(a);
            return switch (b) {
                case 0 -> List.of("plain", "quiet", "brilliant", "known").indexOf(p.kind);
                case 1 -> p.minutes;
                case 2 -> p.arm;
                case 3 -> p.worth;
                case 4 -> now.played.contains(a) ? 1 : 0;
                default -> OUTSIDE;
            };
        }

        int as(int a, int b) {
            if (a < 0 || a >= house.people.size()) {
                return UNKNOWN;
            }
            if (b < 0 || b > 4) {
                return OUTSIDE;
            }
            String all = switch (house.people.get(a).kind) {
                case "guest" -> "01";
                case "fan" -> "012";
                case "sleeper" -> "03";
                default -> "0124";
            };
            return all.contains("" + b) ? now.loss(a) : NOT;
        }

        int encoreAs(int a, int b) {
            if (a < 0 || a >= house.pieces.size()) {
                return UNKNOWN;
            }
            if (b < 0 || b > 4) {
                return OUTSIDE;
            }
            String kind = house.pieces.get(a).kind;
            String all = switch (kind) {
                case "plain" -> "01";
                case "quiet" -> "02";
                case "brilliant" -> "013";
                default -> "0134";
            };
            return all.contains("" + b) ? Moment.behindPiece(kind, 7, 9) : NOT;
        }

        int no(int step) {
            if (step < 0 || step > 5) {
                return OUTSIDE;
            }
            return step - 2 >= house.pieces.size() ? UNKNOWN : 0;
        }

        int does(int step) {
            if (no(step) != 0) {
                return no(step);
            }
            if (!now.can(step)) {
                return NOT;
            }
            Moment then = now.behind(step);
            if (then.minute > 999) {
                return FULL;
            }
            undo.add(now);
            if (undo.size() > 8) {
                undo.remove(0);
            }
            now = then;
            return now.noise();
        }

        int undo() {
            if (undo.isEmpty()) {
                return NOT;
            }
            now = undo.remove(undo.size() - 1);
            return undo.size();
        }

        int keep(int k) {
            if (k != 0 && k != 1) {
                return UNKNOWN;
            }
            kept[k] = now;
            return now.minute;
        }

        int back(int k) {
            if (k != 0 && k != 1) {
                return UNKNOWN;
            }
            if (kept[k] == null) {
                return NOT;
            }
            now = kept[k];
            undo.clear();
            return now.minute;
        }

        Moment waits(int n) {
            Moment m = now;
            for (int i = 0; i < n; i++) {
                m = m.behind(0);
            }
            return m;
        }

        int till() {
            int n = 0;
            for (Moment m = now; m.noise() > 0; m = m.behind(0)) {
                n++;
            }
            return n;
        }

        /** Rows by length, each length in the order of its steps: the first that is best stays. */
        List<Integer> bestRow(Moment start) {
            List<Integer> best = List.of();
            int bestWorth = 0;
            List<List<Integer>> rows = new ArrayList<>();
            List<Moment> ends = new ArrayList<>();
            rows.add(List.of());
            ends.add(start);
            for (int length = 1; length <= 6; length++) {
                List<List<Integer>> longer = new ArrayList<>();
                List<Moment> longerEnds = new ArrayList<>();
                for (int i = 0; i < rows.size(); i++) {
                    for (int step = 1; step < 2 + house.pieces.size(); step++) {
                        if (ends.get(i).can(step)) {
                            List<Integer> r = new ArrayList<>(rows.get(i));
                            r.add(step);
                            Moment end = ends.get(i).behind(step);
                            longer.add(r);
                            longerEnds.add(end);
                            int worth = end.fame - start.fame - end.paid + start.paid;
                            if (worth > bestWorth) {
                                bestWorth = worth;
                                best = r;
                            }
                        }
                    }
                }
                rows = longer;
                ends = longerEnds;
            }
            return best;
        }

        int worth(Moment start) {
            Moment m = start;
            for (int step : bestRow(start)) {
                m = m.behind(step);
            }
            return m.fame - start.fame - (m.paid - start.paid);
        }

        int best(int i) {
            if (i < NONE) {
                return OUTSIDE;
            }
            if (i == NONE) {
                return worth(now);
            }
            List<Integer> r = bestRow(now);
            return i < r.size() ? r.get(i) : NONE;
        }

        int row(int step) {
            if (no(step) != 0) {
                return no(step);
            }
            if (row.size() == 12) {
                return FULL;
            }
            row.add(step);
            return row.size();
        }

        int tear() {
            int had = row.size();
            row.clear();
            return had;
        }

        int judge(int what) {
            if (what != 0 && what != 1) {
                return OUTSIDE;
            }
            Moment m = now;
            for (int i = 0; i < row.size(); i++) {
                if (!m.can(row.get(i))) {
                    return what == 0 ? i : m.noise();
                }
                m = m.behind(row.get(i));
            }
            return what == 0 ? NONE : m.noise();
        }

        long stay(int n, int p, int part) {
            if (n < 0 || n > 8 || p < 0 || p > 10 || part < 0 || part > 1) {
                return OUTSIDE;
            }
            long[] ways = {1, 0, 0, 0, 0, 0, 0, 0, 0};
            int people = Integer.bitCount(now.hereBits());
            for (int i = 0; i < people; i++) {
                for (int k = 8; k >= 0; k--) {
                    ways[k] = ways[k] * p + (k > 0 ? ways[k - 1] * (10 - p) : 0);
                }
            }
            BigInteger above = BigInteger.ZERO;
            for (int k = n; k <= 8; k++) {
                above = above.add(BigInteger.valueOf(ways[k]));
            }
            BigInteger below = BigInteger.TEN.pow(people);
            BigInteger common = above.gcd(below);
            return (part == 0 ? above : below).divide(common).longValueExact();
        }

        int gone(int number, int what) {
            if (number < 0 || number > 400 || what < 0 || what > 1) {
                return OUTSIDE;
            }
            int sets = 0;
            int least = NONE;
            next:
            for (int set = (1 << now.zeal.size()) - 1; set >= 0; set--) {
                int sum = 0;
                for (int i = 0; i < now.zeal.size(); i++) {
                    if ((set & 1 << i) != 0) {
                        if (!now.claps(i)) {
                            continue next;
                        }
                        sum += now.zeal.get(i);
                    }
                }
                if (sum == number) {
                    sets++;
                    least = set;
                }
            }
            return what == 0 ? sets : least;
        }

        int prepared(int what) {
            if (what < 0 || what > 1) {
                return OUTSIDE;
            }
            int most = 0;
            int least = 0;
            for (int set = (1 << house.pieces.size()) - 1; set >= 0; set--) {
                int arm = 0;
                int worth = 0;
                for (int e = 0; e < house.pieces.size(); e++) {
                    if ((set & 1 << e) != 0) {
                        arm += house.pieces.get(e).arm;
                        worth += house.pieces.get(e).worth;
                    }
                }
                if (arm <= now.arm && worth >= most) {
                    most = worth;
                    least = set;
                }
            }
            return what == 0 ? most : least;
        }

        int count(int what) {
            return switch (what) {
                case 0 -> house.people.size();
                case 1 -> house.pieces.size();
                case 2 -> now.minute;
                case 3 -> now.noise();
                case 4 -> now.arm;
                case 5 -> now.bows;
                case 6 -> now.paid;
                case 7 -> now.fame;
                case 8 -> now.hereBits();
                case 9 -> now.played.stream().mapToInt(e -> 1 << e).sum();
                case 10 -> row.size();
                case 11 -> undo.size();
                case 12 -> text.length();
                default -> OUTSIDE;
            };
        }
    }

    private static long ask(WhichEncore x, String name, int a, int b, int c) {
        return switch (name) {
            case "write" -> x.write(a);
            case "erase" -> x.erase();
            case "fault" -> x.fault();
            case "hall" -> x.hall();
            case "clapper" -> x.clapper(a, b);
            case "encore" -> x.encore(a, b);
            case "as" -> x.as(a, b);
            case "encoreAs" -> x.encoreAs(a, b);
            case "can" -> x.can(a);
            case "does" -> x.does(a);
            case "undo" -> x.undo();
            case "keep" -> x.keep(a);
            case "back" -> x.back(a);
            case "till" -> x.till();
            case "there" -> x.there(a);
            case "sound" -> x.sound(a);
            case "best" -> x.best(a);
            case "row" -> x.row(a);
            case "tear" -> x.tear();
            case "judge" -> x.judge(a);
            case "stay" -> x.stay(a, b, c);
            case "gone" -> x.gone(a, b);
            case "prepared" -> x.prepared(a);
            case "other" -> x.other(a);
            default -> x.count(a);
        };
    }

    private static final String[] CALLS = {
        "erase", "fault", "hall", "clapper", "encore", "as", "encoreAs", "can", "does", "does", "does",
        "does", "undo", "keep", "back", "till", "there", "sound", "best", "row", "row", "tear", "judge",
        "stay", "gone", "prepared", "other", "count", "count"};
    private static final String[] WORDS = {
        "hall", "guest", "fan", "sleeper", "shouter", "plain", "quiet", "brilliant", "known", "arm",
        "close", "hire", "empty", "guest", "fan", "sleeper", "shouter", "plain", "quiet", "known"};
    private static final String[] SLIPS = {";", " ", "5", "100", "fan", "x", "A", "\u00e9", "0", "\t", ".", ";;", "  "};

    private final Random random;
    private final WhichEncore x = new WhichEncore();
    private final Model model = new Model();
    private final List<String> calls = new ArrayList<>();

    private AgainstModel(long seed) {
        random = new Random(seed);
    }

    private boolean agrees(String name, int a, int b, int c) {
        calls.add(name + "(" + a + ", " + b + ", " + c + ")");
        long want = model.call(name, a, b, c);
        long got = ask(x, name, a, b, c);
        if (want == got) {
            return true;
        }
        System.out.println(calls + " answered " + got + ", due is " + want);
        return false;
    }

    private String clause() {
        String word = WORDS[random.nextInt(WORDS.length)];
        if (word.equals("hall") && random.nextInt(3) > 0) {
            word = "arm";
        }
        StringBuilder made = new StringBuilder(word);
        for (int[] bounds : Model.boundsOf(word)) {
            int top = random.nextBoolean() ? bounds[1] : Math.min(bounds[1], bounds[0] + 7);
            made.append(' ').append(bounds[0] + random.nextInt(top - bounds[0] + 1));
        }
        return made.toString();
    }

    /** Little zeal and quiet encores: the best rows need bows then. */
    private String drowsyText() {
        StringBuilder made = new StringBuilder("hall;hire ").append(random.nextInt(2));
        for (int i = random.nextInt(3); i >= 0; i--) {
            made.append(';').append(WORDS[1 + random.nextInt(4)]).append(' ').append(random.nextInt(3));
            made.append(' ').append(1 + random.nextInt(random.nextBoolean() ? 99 : 9));
        }
        for (int i = 0; i < 4; i++) {
            made.append(';').append(random.nextInt(4) > 0 ? "quiet" : WORDS[5 + random.nextInt(4)]);
            made.append(' ').append(1 + random.nextInt(3)).append(' ').append(1 + random.nextInt(3));
            made.append(' ').append(random.nextInt(9));
        }
        return made.toString();
    }

    private String someText() {
        if (random.nextInt(4) == 0) {
            return drowsyText();
        }
        StringBuilder made = new StringBuilder();
        int clauses = 1 + random.nextInt(random.nextInt(8) == 0 ? 17 : 9);
        for (int i = 0; i < clauses; i++) {
            made.append(i > 0 ? ";" : "").append(random.nextInt(20) == 0 ? "hall" : clause());
        }
        if (random.nextInt(3) == 0) {
            int at = random.nextInt(made.length() + 1);
            if (random.nextBoolean()) {
                made.insert(at, SLIPS[random.nextInt(SLIPS.length)]);
            } else {
                made.setLength(at);
            }
        }
        return made.toString();
    }

    private boolean writes() {
        if (random.nextInt(6) > 0 && !agrees("erase", 0, 0, 0)) {
            return false;
        }
        String text = someText();
        for (int i = 0; i < text.length(); i++) {
            if (!agrees("write", text.charAt(i), 0, 0)) {
                return false;
            }
        }
        return agrees("fault", 0, 0, 0) && agrees("hall", 0, 0, 0);
    }

    private int someNumber(String name) {
        if (random.nextInt(40) == 0) {
            return new int[] {Integer.MIN_VALUE, -2, Integer.MAX_VALUE, 256, 401, 100, 31}[random.nextInt(7)];
        }
        return switch (name) {
            case "there", "sound" -> random.nextInt(random.nextBoolean() ? 102 : 12) - 1;
            case "gone" -> random.nextInt(10) == 0 ? random.nextInt(403) - 1 : random.nextInt(50);
            case "other" -> random.nextInt(33) - 1;
            case "count" -> random.nextInt(15) - 1;
            case "keep", "back" -> random.nextInt(10) == 0 ? 2 : random.nextInt(2);
            case "stay" -> random.nextInt(10);
            case "judge", "prepared" -> random.nextInt(10) == 0 ? 2 : random.nextInt(2);
            default -> random.nextInt(9) - 1;
        };
    }

    private int someSecond(String name) {
        if (random.nextInt(60) == 0) {
            return random.nextBoolean() ? Integer.MIN_VALUE : Integer.MAX_VALUE;
        }
        return switch (name) {
            case "stay" -> random.nextInt(13) - 1;
            case "gone" -> random.nextInt(10) == 0 ? 2 : random.nextInt(2);
            default -> random.nextInt(8) - 1;
        };
    }

    private boolean run() {
        for (int i = 0; i < 4; i++) {
            if (!writes()) {
                return false;
            }
            int more = random.nextInt(60);
            for (int j = 0; j < more; j++) {
                String name = CALLS[random.nextInt(CALLS.length)];
                int a = someNumber(name);
                if (name.equals("does") && random.nextInt(4) == 0) {
                    a = 0;
                }
                int part = random.nextInt(10) == 0 ? 2 : random.nextInt(2);
                if (!agrees(name, a, someSecond(name), part)) {
                    return false;
                }
            }
        }
        for (int what = 0; what <= 12; what++) {
            if (!agrees("count", what, 0, 0)) {
                return false;
            }
        }
        return true;
    }

    public static void main(String[] args) {
        int runs = args.length > 0 ? Integer.parseInt(args[0]) : 3000;
        int wrong = 0;
        for (int seed = 0; seed < runs && wrong < 5; seed++) {
            wrong += new AgainstModel(seed).run() ? 0 : 1;
        }
        System.out.println(runs + " runs, " + wrong + " wrong");
        if (wrong != 0) {
            System.exit(1);
        }
    }
}
