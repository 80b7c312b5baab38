import java.util.TreeSet;

/** What the project's tests share: telling the answers that are not as due, and making desks and wrong arguments. */
abstract class Checks {
    // The document's numbers, not the class's names: an answer is due as a number.
    static final int BAD = -1;
    static final int FULL = -2;
    static final int REFUSED = -3;
    static final int NONE = -1;

    private static String sentence = "";
    private static int sentences = 0;
    private static int answers = 0;
    private static int wrong = 0;

    static {
        // No call may throw; one that does is told with its sentence too.
        Thread.setDefaultUncaughtExceptionHandler((thread, thrown) -> {
            System.out.println(sentence + "a call threw " + thrown);
            thrown.printStackTrace();
            System.exit(1);
        });
    }

    /** Names the sentence of the document that the answers from here on are looked at for. */
    static void sentence(String words) {
        sentence = words + " | ";
        sentences++;
    }

    static void due(String call, int got, int want) {
        answers++;
        if (got != want) {
            wrong++;
            System.out.println(sentence + call + " answered " + got + ", due is " + want);
        }
    }

    static void due(String call, boolean got, boolean want) {
        due(call, got ? 1 : 0, want ? 1 : 0);
    }

    static void same(String when, String got, String want) {
        answers++;
        if (!got.equals(want)) {
            wrong++;
            System.out.println(sentence + when + " the object looks like " + got + ", due is " + want);
        }
    }

    /** The last call of a test: fails it if an answer was not as due. */
    static void end() {
        String of = sentences == 0 ? "" : " for " + sentences + " sentences";
        System.out.println(wrong == 0 ? answers + " answers" + of + " are as due" : wrong + " answers are not as due");
        if (wrong != 0) {
            System.exit(1);
        }
    }

    static void dueBook(FleetDesk d, int pick, int t, int back, int u, int want) {
        due("book(" + pick + ", " + t + ", " + back + ", " + u + ")", d.book(pick, t, back, u), want);
    }

    static void dueProbe(FleetDesk d, int pick, int t, int back, int u, int want) {
        due("probe(" + pick + ", " + t + ", " + back + ", " + u + ")", d.probe(pick, t, back, u), want);
    }

    static void dueCancel(FleetDesk d, int id, int want) {
        due("cancel(" + id + ")", d.cancel(id), want);
    }

    static void dueSetStock(FleetDesk d, int s, int n, int want) {
        due("setStock(" + s + ", " + n + ")", d.setStock(s, n), want);
    }

    static void dueStock(FleetDesk d, int s, int want) {
        due("stock(" + s + ")", d.stock(s), want);
    }

    static void dueBookings(FleetDesk d, int want) {
        due("bookings()", d.bookings(), want);
    }

    static void dueShortage(FleetDesk d, int pick, int t, int n, int want) {
        due("shortage(" + pick + ", " + t + ", " + n + ")", d.shortage(pick, t, n), want);
    }

    static void dueSpare(FleetDesk d, int s, int x, int want) {
        due("spare(" + s + ", " + x + ")", d.spare(s, x), want);
    }

    static void duePickupOf(FleetDesk d, int id, int want) {
        due("pickupOf(" + id + ")", d.pickupOf(id), want);
    }

    static void dueReturnOf(FleetDesk d, int id, int want) {
        due("returnOf(" + id + ")", d.returnOf(id), want);
    }

    static void dueCouldPick(FleetDesk d, int id, int s, boolean want) {
        due("couldPick(" + id + ", " + s + ")", d.couldPick(id, s), want);
    }

    static void dueCouldReturn(FleetDesk d, int id, int s, boolean want) {
        due("couldReturn(" + id + ", " + s + ")", d.couldReturn(id, s), want);
    }

    /**
     * Ints outside least .. most: those next to it, the least and the greatest int, and those about every power of two,
     * which a narrower type or a mask would take for one inside.
     */
    static int[] outside(int least, int most) {
        TreeSet<Integer> found = new TreeSet<>();
        for (int power = 0; power < 32; power++) {
            for (int by = -17; by <= 17; by++) {
                found.add((1 << power) + by);
                found.add(-(1 << power) + by);
            }
        }
        found.removeIf(value -> value >= least && value <= most);
        return found.stream().mapToInt(Integer::intValue).toArray();
    }

    /** A new desk with n vehicles at station s and none elsewhere. */
    static FleetDesk deskWith(int capacity, int s, int n) {
        FleetDesk d = new FleetDesk(capacity, s == 0 ? n : 0, s == 1 ? n : 0, s == 2 ? n : 0);
        if (s == 3) {
            d.setStock(3, n);
        }
        return d;
    }

    /** A new desk with n vehicles at each of the four stations. */
    static FleetDesk deskWithEverywhere(int capacity, int n) {
        FleetDesk d = new FleetDesk(capacity, n, n, n);
        d.setStock(3, n);
        return d;
    }

    /** A new desk of capacity 5 with twelve vehicles whose bookings hold just the numbers of the mask. */
    static FleetDesk deskHolding(int mask) {
        FleetDesk d = deskWithEverywhere(5, 3);
        for (int id = 0; id < 5; id++) {
            d.book(15, 0, 15, 8);
        }
        for (int id = 0; id < 5; id++) {
            if ((mask >> id & 1) == 0) {
                d.cancel(id);
            }
        }
        return d;
    }

    /** A new desk with as many bookings as there may be, none of station 3, and with four or more vehicles left. */
    static FleetDesk fullDesk(int capacity) {
        FleetDesk d = new FleetDesk(capacity, 3, 3, 3);
        for (int id = 0; id < capacity; id++) {
            d.book(7, 0, 7, 8);
        }
        return d;
    }

    /**
     * A desk of capacity 4 whose bookings hold 0 and 2 and need one another's vehicles: 0 brings back what 2 takes, so
     * cancel(0) is refused, and so are setStock(0, 0), and book(4, 0, 4, 1).
     */
    static FleetDesk tightDesk() {
        FleetDesk d = new FleetDesk(4, 1, 1, 0);
        d.book(1, 2, 12, 5);
        d.book(2, 0, 3, 1);
        d.book(12, 5, 6, 7);
        d.cancel(1);
        return d;
    }

    /** All that an object answers of its state, in 129 calls. */
    static String look(FleetDesk d) {
        StringBuilder seen = new StringBuilder("bookings " + d.bookings() + ", stocks");
        for (int s = 0; s < 4; s++) {
            seen.append(" " + d.stock(s) + " with spare ");
            for (int x = 0; x <= 8; x++) {
                seen.append(d.spare(s, x));
            }
            seen.append(" and shortage ");
            for (int x = 0; x <= 8; x++) {
                seen.append(d.shortage(15 - (1 << s), x, 9));
            }
        }
        for (int id = 0; id < 5; id++) {
            seen.append(", " + id + " from " + d.pickupOf(id) + " to " + d.returnOf(id) + " of");
            for (int s = 0; s < 4; s++) {
                seen.append(d.couldPick(id, s) ? " p" : " -").append(d.couldReturn(id, s) ? "r" : "-");
            }
        }
        seen.append(", next " + d.probe(15, 0, 15, 8) + " and " + d.probe(15, 7, 15, 8));
        return seen.toString();
    }
}
