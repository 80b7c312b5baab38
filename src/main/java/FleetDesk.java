/**
 * The booking desk of a fleet of like vehicles that may be taken at one station and brought back at another.
 *
 * <p>Why no plan is ever tried out: the vehicle of every pickup was, just before, either in the stock of a station of
 * the pickup set, or brought back, no later than the pickup, by a booking whose return set shares a station with the
 * pickup set. Call these the vehicles that serve the pickup. A plan is good just when at each station every pickup can
 * be given such a vehicle of its own; so there is a good plan just when all pickups can be given vehicles of their own
 * (a return that serves a pickup goes to a station they share, any other return goes anywhere). By Hall's theorem that
 * is so just when no group of pickups is larger than the number of vehicles that serve at least one of the group.
 */
public final class FleetDesk {
    public static final int BAD = -1;
    public static final int FULL = -2;
    public static final int REFUSED = -3;
    public static final int NONE = -1;

    private static final int STATIONS = 4;
    private static final int ALL_STATIONS = 15;
    private static final int LAST_TIME = 8;
    private static final int MOST_STOCK = 3;
    private static final int MOST_FURTHER = 9;
    private static final int MOST_BOOKINGS = 5;
    private static final int GROUPS = 1 << MOST_BOOKINGS;
    private static final int ENDS = 2 * MOST_BOOKINGS;

    private final int capacity;
    private final int[] stockAt = new int[STATIONS];

    /** Bit i is set when a booking holds the number i. */
    private int held = 0;

    // A booking has two ends, numbered in the order of the first plan's list: 2 * id its pickup, 2 * id + 1 its return.
    private final int[] askedSet = new int[ENDS];
    private final int[] endTime = new int[ENDS];

    /** The sets that good plans are looked for with: the asked ones, but where a question narrows one meanwhile. */
    private final int[] openSet = new int[ENDS];

    public FleetDesk(int capacity, int at0, int at1, int at2) {
        this.capacity = clamp(capacity, 1, MOST_BOOKINGS);
        stockAt[0] = clamp(at0, 0, MOST_STOCK);
        stockAt[1] = clamp(at1, 0, MOST_STOCK);
        stockAt[2] = clamp(at2, 0, MOST_STOCK);
    }

    public int book(int pick, int t, int back, int u) {
        if (!isStationSet(pick) || !isStationSet(back) || t < 0 || t >= u || u > LAST_TIME) {
            return BAD;
        }
        int id = leastFreeNumber();
        if (id >= capacity) {
            return FULL;
        }
        setEnd(2 * id, pick, t);
        setEnd(2 * id + 1, back, u);
        held |= 1 << id;
        if (!hasGoodPlan()) {
            held &= ~(1 << id);
            return REFUSED;
        }
        return id;
    }

    public int probe(int pick, int t, int back, int u) {
        int answer = book(pick, t, back, u);
        if (answer >= 0) {
            held &= ~(1 << answer);
        }
        return answer;
    }

    public int cancel(int id) {
        if (!isHeld(id)) {
            return NONE;
        }
        held &= ~(1 << id);
        if (!hasGoodPlan()) {
            held |= 1 << id;
            return REFUSED;
        }
        return id;
    }

    public int setStock(int s, int n) {
        if (!isStation(s) || n < 0 || n > MOST_STOCK) {
            return BAD;
        }
        int before = stockAt[s];
        stockAt[s] = n;
        if (!hasGoodPlan()) {
            stockAt[s] = before;
            return REFUSED;
        }
        return n;
    }

    public int stock(int s) {
        return isStation(s) ? stockAt[s] : NONE;
    }

    public int bookings() {
        return held;
    }

    public int shortage(int pick, int t, int n) {
        if (!isStationSet(pick) || !isTime(t) || n < 0 || n > MOST_FURTHER) {
            return -1;
        }
        int room = roomFor(pick, t);
        return n > room ? n - room : 0;
    }

    public int spare(int s, int x) {
        if (!isStation(s) || !isTime(x)) {
            return NONE;
        }
        // k vehicles can be left over just when k further pickups at s at time x could be served and never came back.
        return roomFor(1 << s, x);
    }

    public int pickupOf(int id) {
        return isHeld(id) ? stationInFirstPlan(2 * id) : NONE;
    }

    public int returnOf(int id) {
        return isHeld(id) ? stationInFirstPlan(2 * id + 1) : NONE;
    }

    public boolean couldPick(int id, int s) {
        return isHeld(id) && isStation(s) && couldBeAt(2 * id, s);
    }

    public boolean couldReturn(int id, int s) {
        return isHeld(id) && isStation(s) && couldBeAt(2 * id + 1, s);
    }

    private static int clamp(int value, int least, int most) {
        if (value < least) {
            return least;
        }
        return value > most ? most : value;
    }

    private static boolean isStation(int s) {
        return s >= 0 && s < STATIONS;
    }

    private static boolean isTime(int x) {
        return x >= 0 && x <= LAST_TIME;
    }

    private static boolean isStationSet(int set) {
        return set >= 1 && set <= ALL_STATIONS;
    }

    private boolean isHeld(int id) {
        return id >= 0 && id < MOST_BOOKINGS && (held >> id & 1) == 1;
    }

    private int leastFreeNumber() {
        for (int id = 0; id < MOST_BOOKINGS; id++) {
            if ((held >> id & 1) == 0) {
                return id;
            }
        }
        return MOST_BOOKINGS;
    }

    private void setEnd(int end, int set, int time) {
        askedSet[end] = set;
        openSet[end] = set;
        endTime[end] = time;
    }

    private int stationInFirstPlan(int end) {
        int station = NONE;
        for (int e = 0; e <= end && e < ENDS; e++) {
            if (!isHeld(e / 2)) {
                continue;
            }
            for (int s = 0; s < STATIONS; s++) {
                if (couldBeAt(e, s)) {
                    // Narrowed, so that the later ends choose only among the plans that agree so far.
                    openSet[e] = 1 << s;
                    station = s;
                    break;
                }
            }
        }
        for (int e = 0; e < ENDS; e++) {
            openSet[e] = askedSet[e];
        }
        return station;
    }

    private boolean couldBeAt(int end, int s) {
        int whole = openSet[end];
        if ((whole >> s & 1) == 0) {
            return false;
        }
        openSet[end] = 1 << s;
        boolean could = hasGoodPlan();
        openSet[end] = whole;
        return could;
    }

    private boolean hasGoodPlan() {
        for (int group = 1; group < GROUPS; group++) {
            if ((group & ~held) == 0 && slackOf(group, 0, 0) < 0) {
                return false;
            }
        }
        return true;
    }

    /**
     * How many further pickups of the set pick at time t, never brought back, could be served beside the bookings. As
     * the bookings alone have a good plan, only a group that has all the further pickups can be too large; so every
     * further pickup above this number needs one vehicle more, and one vehicle more is enough for it.
     */
    private int roomFor(int pick, int t) {
        int least = slackOf(0, pick, t);
        for (int group = 1; group < GROUPS; group++) {
            if ((group & ~held) == 0) {
                int slack = slackOf(group, pick, t);
                least = slack < least ? slack : least;
            }
        }
        return least;
    }

    /**
     * The number of vehicles that serve a pickup of the group or a further one of the set pick at time t (no further
     * one when pick is 0), less the size of the group.
     */
    private int slackOf(int group, int pick, int t) {
        int slack = 0;
        int reach = pick;
        for (int id = 0; id < MOST_BOOKINGS; id++) {
            if ((group >> id & 1) == 1) {
                reach |= openSet[2 * id];
                slack--;
            }
        }
        for (int s = 0; s < STATIONS; s++) {
            if ((reach >> s & 1) == 1) {
                slack += stockAt[s];
            }
        }
        for (int id = 0; id < MOST_BOOKINGS; id++) {
            if ((held >> id & 1) == 1 && returnServes(id, group, pick, t)) {
                slack++;
            }
        }
        return slack;
    }

    private boolean returnServes(int from, int group, int pick, int t) {
        int back = openSet[2 * from + 1];
        int u = endTime[2 * from + 1];
        if ((back & pick) != 0 && u <= t) {
            return true;
        }
        for (int id = 0; id < MOST_BOOKINGS; id++) {
            if ((group >> id & 1) == 1 && (back & openSet[2 * id]) != 0 && u <= endTime[2 * id]) {
                return true;
            }
        }
        return false;
    }
}
