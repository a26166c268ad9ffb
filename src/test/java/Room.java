import java.lang.management.ManagementFactory;

// All calls of a run share one room, so objects are made by the constructor and hardly by calls.
public final class Room {
    private static final int MOST_FOR_OBJECT = 16000;
    private static final int MOST_FOR_CALLS = 4000;
    private static int wrong;

    private static long taken() {
        return ((com.sun.management.ThreadMXBean) ManagementFactory.getThreadMXBean())
            .getThreadAllocatedBytes(Thread.currentThread().getId());
    }

    private static void most(long most, long got, String what) {
        System.out.println(what + ": " + got + " bytes");
        if (got > most) {
            wrong++;
            System.out.println(what + " took " + got + " bytes, due are at most " + most);
        }
    }

    private static long used(WhichEncore x) {
        long sum = 0;
        String text = "fan 9 99;guest 9 50;quiet 1 1 9;plain 1 1 9;brilliant 1 1 9;known 1 1 9;arm 30";
        for (int i = 0; i < text.length(); i++) {
            sum += x.write(text.charAt(i));
        }
        sum += x.fault() + x.hall();
        for (int i = 0; i < 50; i++) {
            sum += x.best(i) + x.other(i) + x.stay(1, i % 11, 0) + x.gone(i, 0) + x.prepared(0)
                + x.till() + x.there(i) + x.sound(i) + x.row(i % 6) + x.judge(0) + x.does(i % 6)
                + x.keep(0) + x.undo() + x.back(0) + x.as(0, 0) + x.encoreAs(0, 0) + x.count(3);
        }
        return sum;
    }

    public static void main(String[] args) {
        long sum = used(new WhichEncore());
        long before = taken();
        WhichEncore x = new WhichEncore();
        long made = taken();
        sum += used(x);
        long after = taken();
        most(MOST_FOR_OBJECT, made - before, "an object");
        most(MOST_FOR_CALLS, after - made, "its calls");
        if (wrong != 0 || sum == 0) {
            System.exit(1);
        }
    }
}
