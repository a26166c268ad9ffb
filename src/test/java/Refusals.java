import java.util.ArrayList;
import java.util.List;

// Every refusal of every call: the first that fits is answered, and nothing changes by it. Two
// objects go the same way, one is asked in vain beside it; then both must answer alike.
public final class Refusals extends Edges {
    private interface Way {
        void go(WhichEncore x);
    }

    private interface Call {
        long on(WhichEncore x);
    }

    private record Refused(int want, String name, Call call) { }

    private static final int[] BELOW_AND_ABOVE = {-1, 13, 256, 401, LEAST, MOST};

    /** Nobody there, nothing told. */
    private static void bare(WhichEncore x) {
        x.count(0);
    }

    /** Steps done and undone, both evenings kept, a row and a text begun. */
    private static void busy(WhichEncore x) {
        tell(x, "fan 9 4;sleeper 9 99;guest 0 99;plain 1 4 5;known 2 3 7;hire 2;arm 9");
        does(x, 0, 1);
        x.keep(1);
        does(x, 2, 0, 0, 1, 0, 1, 1, 1, 1);
        x.undo();
        x.keep(0);
        x.row(0);
        x.row(2);
        x.row(1);
        put(x, "fan 3 9;arm 7");
    }

    /** As many as can be: clappers, encores, steps of the row, letters, steps that can be undone. */
    private static void full(WhichEncore x) {
        tell(x, "fan 9 99;".repeat(8) + "plain 1 9 5;quiet 1 8 5;brilliant 1 9 5;known 1 9 5");
        does(x, 3, 0, 0, 0, 0, 0, 0, 0, 0);
        for (int i = 0; i < 12; i++) {
            x.row(i % 2);
        }
        put(x, "empty;arm 30" + " ".repeat(148));
    }

    private static List<Refused> always() {
        List<Refused> all = new ArrayList<>();
        for (int no : BELOW_AND_ABOVE) {
            all.add(new Refused(UNKNOWN, "clapper", x -> x.clapper(no, 0)));
            all.add(new Refused(UNKNOWN, "clapper, twice", x -> x.clapper(no, no)));
            all.add(new Refused(UNKNOWN, "encore", x -> x.encore(no, 0)));
            all.add(new Refused(UNKNOWN, "encore, twice", x -> x.encore(no, no)));
            all.add(new Refused(UNKNOWN, "as", x -> x.as(no, 0)));
            all.add(new Refused(UNKNOWN, "as, twice", x -> x.as(no, no)));
            all.add(new Refused(UNKNOWN, "encoreAs", x -> x.encoreAs(no, 0)));
            all.add(new Refused(UNKNOWN, "encoreAs, twice", x -> x.encoreAs(no, no)));
            all.add(new Refused(UNKNOWN, "keep", x -> x.keep(no)));
            all.add(new Refused(UNKNOWN, "back", x -> x.back(no)));
            all.add(new Refused(OUTSIDE, "can", x -> x.can(no)));
            all.add(new Refused(OUTSIDE, "does", x -> x.does(no)));
            all.add(new Refused(OUTSIDE, "row", x -> x.row(no)));
            all.add(new Refused(OUTSIDE, "judge", x -> x.judge(no)));
            all.add(new Refused(OUTSIDE, "stay, n", x -> x.stay(no, 5, 0)));
            all.add(new Refused(OUTSIDE, "stay, p", x -> x.stay(1, no, 0)));
            all.add(new Refused(OUTSIDE, "stay, part", x -> x.stay(1, 5, no)));
            all.add(new Refused(OUTSIDE, "gone, what", x -> x.gone(0, no)));
            all.add(new Refused(OUTSIDE, "prepared", x -> x.prepared(no)));
            all.add(new Refused(OUTSIDE, "count", x -> x.count(no)));
        }
        for (int no : new int[] {-1, 256, LEAST, MOST}) {
            all.add(new Refused(OUTSIDE, "write", x -> x.write(no)));
        }
        for (int no : new int[] {-1, 100, LEAST, MOST}) {
            all.add(new Refused(OUTSIDE, "there", x -> x.there(no)));
            all.add(new Refused(OUTSIDE, "sound", x -> x.sound(no)));
            all.add(new Refused(OUTSIDE, "other", x -> x.other(no)));
        }
        for (int no : new int[] {-1, 401, LEAST, MOST}) {
            all.add(new Refused(OUTSIDE, "gone, number", x -> x.gone(no, 0)));
        }
        for (int no : new int[] {-2, LEAST}) {
            all.add(new Refused(OUTSIDE, "best", x -> x.best(no)));
        }
        return all;
    }

    private static void bareRefuses() {
        refuses(Refusals::bare, always());
        List<Refused> now = new ArrayList<>();
        for (int step = 2; step <= 5; step++) {
            int s = step;
            now.add(new Refused(UNKNOWN, "can", x -> x.can(s)));
            now.add(new Refused(UNKNOWN, "does", x -> x.does(s)));
            now.add(new Refused(UNKNOWN, "row", x -> x.row(s)));
        }
        now.add(new Refused(NOT, "does(1)", x -> x.does(1)));
        now.add(new Refused(NOT, "undo", x -> x.undo()));
        now.add(new Refused(NOT, "back(0)", x -> x.back(0)));
        now.add(new Refused(NOT, "back(1)", x -> x.back(1)));
        now.add(new Refused(NOT, "hall", x -> x.hall()));
        refuses(Refusals::bare, now);
    }

    private static void busyRefuses() {
        refuses(Refusals::busy, always());
        List<Refused> now = new ArrayList<>();
        now.add(new Refused(UNKNOWN, "clapper(3, 0)", x -> x.clapper(3, 0)));
        now.add(new Refused(OUTSIDE, "clapper(2, 6)", x -> x.clapper(2, 6)));
        now.add(new Refused(UNKNOWN, "encore(2, 0)", x -> x.encore(2, 0)));
        now.add(new Refused(OUTSIDE, "encore(1, 5)", x -> x.encore(1, 5)));
        now.add(new Refused(OUTSIDE, "as(0, 5)", x -> x.as(0, 5)));
        now.add(new Refused(NOT, "as(0, 3)", x -> x.as(0, 3)));
        now.add(new Refused(OUTSIDE, "encoreAs(0, 5)", x -> x.encoreAs(0, 5)));
        now.add(new Refused(NOT, "encoreAs(0, 2)", x -> x.encoreAs(0, 2)));
        now.add(new Refused(UNKNOWN, "can(4)", x -> x.can(4)));
        now.add(new Refused(UNKNOWN, "does(4)", x -> x.does(4)));
        now.add(new Refused(UNKNOWN, "row(4)", x -> x.row(4)));
        now.add(new Refused(NOT, "does(2)", x -> x.does(2)));
        now.add(new Refused(UNKNOWN, "keep(2)", x -> x.keep(2)));
        now.add(new Refused(UNKNOWN, "back(2)", x -> x.back(2)));
        refuses(Refusals::busy, now);
        List<Refused> faulty = List.of(new Refused(NOT, "hall", x -> x.hall()));
        refuses(x -> {
            busy(x);
            put(x, ";arm 31");
        }, faulty);
    }

    private static void fullRefuses() {
        refuses(Refusals::full, always());
        List<Refused> now = new ArrayList<>();
        now.add(new Refused(UNKNOWN, "clapper(8, 0)", x -> x.clapper(8, 0)));
        now.add(new Refused(UNKNOWN, "encore(4, 0)", x -> x.encore(4, 0)));
        now.add(new Refused(OUTSIDE, "write(256)", x -> x.write(256)));
        now.add(new Refused(FULL, "write(0)", x -> x.write(0)));
        now.add(new Refused(FULL, "write(255)", x -> x.write(255)));
        now.add(new Refused(FULL, "row(0)", x -> x.row(0)));
        now.add(new Refused(FULL, "row(5)", x -> x.row(5)));
        now.add(new Refused(OUTSIDE, "row(6)", x -> x.row(6)));
        now.add(new Refused(NOT, "does(2)", x -> x.does(2)));
        now.add(new Refused(NOT, "does(3)", x -> x.does(3)));
        now.add(new Refused(NOT, "back(0)", x -> x.back(0)));
        refuses(Refusals::full, now);
    }

    private static void refuses(Way way, List<Refused> calls) {
        for (Refused refused : calls) {
            for (int look = 0; look < 5; look++) {
                WhichEncore asked = new WhichEncore();
                WhichEncore left = new WhichEncore();
                way.go(asked);
                way.go(left);
                due(refused.want, refused.call.on(asked), refused.name);
                String want = lookAt(left, look);
                String got = lookAt(asked, look);
                tally(want.equals(got), refused.name + " changed " + want + " to " + got);
            }
        }
    }

    /** Each look goes on by another way, so that all that is held comes to light in one of them. */
    private static String lookAt(WhichEncore x, int look) {
        StringBuilder seen = new StringBuilder(state(x));
        switch (look) {
            case 0: return seen.append(x.best(NONE)).append(' ').append(x.fault()).toString();
            case 1: return seen.append(x.back(0)).append(' ').append(state(x)).toString();
            case 2: return seen.append(x.back(1)).append(' ').append(state(x)).toString();
            case 3: return seen.append(x.hall()).append(' ').append(state(x)).toString();
            default: break;
        }
        for (int i = 0; i < 9; i++) {
            seen.append(' ').append(x.undo());
            for (int what : new int[] {2, 3, 4, 7}) {
                seen.append(' ').append(x.count(what));
            }
        }
        return seen.toString();
    }

    private static void firstThatFits() {
        says("Terms", "the first of these that fits");
        WhichEncore x = new WhichEncore();
        busy(x);
        due(UNKNOWN, x.clapper(3, 6), "clapper(3, 6): UNKNOWN, OUTSIDE");
        due(UNKNOWN, x.encore(2, 5), "encore(2, 5): UNKNOWN, OUTSIDE");
        due(UNKNOWN, x.as(3, 5), "as(3, 5): UNKNOWN, OUTSIDE");
        due(UNKNOWN, x.encoreAs(2, 5), "encoreAs(2, 5): UNKNOWN, OUTSIDE");
        due(UNKNOWN, new WhichEncore().does(2), "does(2): UNKNOWN, NOT");
        due(UNKNOWN, new WhichEncore().back(2), "back(2): UNKNOWN, NOT");
        x = new WhichEncore();
        full(x);
        due(OUTSIDE, x.write(-1), "write(-1): OUTSIDE, FULL");
        due(OUTSIDE, x.row(-1), "row(-1): OUTSIDE, FULL");
        x = told("plain 1 1 1");
        for (int i = 0; i < 12; i++) {
            x.row(2);
        }
        due(UNKNOWN, x.row(3), "row(3): UNKNOWN, FULL");
    }

    public static void main(String[] args) {
        says("Terms", "Refused, and nothing changes: UNKNOWN (no such CLAPPER, ENCORE), OUTSIDE (another number is not as told), NOT (not now: as told), FULL");
        bareRefuses();
        busyRefuses();
        fullRefuses();
        firstThatFits();
        finish();
    }
}
