import java.util.Arrays;
import java.util.Random;

/**
 * Long runs of calls, each answer compared with that of a slow desk that goes through all plans one by one, as the
 * document's terms tell them. The seeds are fixed, so the runs are the same every time.
 */
public final class FleetDeskAgainstPlans {
    private static final int MOST_CALLS = 512;
    private static final int RUNS = 600;
    private static final int MOST_TOLD = 20;
    private static final int[] ODD = {
        -1, -2, 4, 5, 8, 9, 10, 15, 16, 17, 31, 32, 33, -32, Integer.MIN_VALUE, Integer.MAX_VALUE};

    private static int wrong = 0;
    private static long calls = 0;

    public static void main(String[] args) {
        for (int run = 1; run <= RUNS; run++) {
            new Run(run).go();
        }
        System.out.println(wrong == 0 ? calls + " answers are as due" : wrong + " answers are not as due");
        if (wrong != 0) {
            System.exit(1);
        }
    }

    /** One run of calls on a new object and on a new slow desk. */
    private static final class Run {
        private final int number;
        private final Random random;
        private final FleetDesk desk;
        private final SlowDesk slow;

        Run(int number) {
            this.number = number;
            random = new Random(number);
            int capacity = odd(10) ? oddNumber() : 1 + random.nextInt(5);
            int at0 = anyStock();
            int at1 = anyStock();
            int at2 = anyStock();
            desk = new FleetDesk(capacity, at0, at1, at2);
            slow = new SlowDesk(capacity, at0, at1, at2);
        }

        void go() {
            int most = number % 3 == 0 ? MOST_CALLS : 120;
            // Some runs mostly fill the desk, so that it is often full and tight; others change it much.
            int changes = 10 + random.nextInt(50);
            for (int i = 0; i < most; i++) {
                if (random.nextInt(100) < changes) {
                    change();
                } else {
                    ask();
                }
            }
        }

        private void change() {
            switch (random.nextInt(7)) {
                case 0, 1, 2, 3 -> bookOrProbe(false);
                case 4, 5 -> {
                    int id = anyId();
                    due("cancel(" + id + ")", desk.cancel(id), slow.cancel(id));
                }
                default -> {
                    int s = anyStation();
                    int n = odd(15) ? oddNumber() : random.nextInt(4);
                    due("setStock(" + s + ", " + n + ")", desk.setStock(s, n), slow.setStock(s, n));
                }
            }
        }

        private void ask() {
            int id = anyId();
            int s = anyStation();
            int x = anyTime();
            switch (random.nextInt(9)) {
                case 0 -> bookOrProbe(true);
                case 1 -> due("stock(" + s + ")", desk.stock(s), slow.stock(s));
                case 2 -> due("bookings()", desk.bookings(), slow.bookings());
                case 3 -> {
                    int pick = anySet();
                    int n = odd(15) ? oddNumber() : random.nextInt(10);
                    String words = "(" + pick + ", " + x + ", " + n + ")";
                    due("shortage" + words, desk.shortage(pick, x, n), slow.shortage(pick, x, n));
                }
                case 4 -> due("spare(" + s + ", " + x + ")", desk.spare(s, x), slow.spare(s, x));
                case 5 -> due("pickupOf(" + id + ")", desk.pickupOf(id), slow.stationOf(id, 0));
                case 6 -> due("returnOf(" + id + ")", desk.returnOf(id), slow.stationOf(id, 1));
                case 7 -> due("couldPick(" + id + ", " + s + ")",
                        bit(desk.couldPick(id, s)), bit(slow.could(id, 0, s)));
                default -> due("couldReturn(" + id + ", " + s + ")",
                        bit(desk.couldReturn(id, s)), bit(slow.could(id, 1, s)));
            }
        }

        private void bookOrProbe(boolean onlyProbe) {
            int pick = anySet();
            int back = anySet();
            int t = random.nextInt(8);
            int u = t + 1 + random.nextInt(8 - t);
            if (odd(12)) {
                t = anyTime();
                u = anyTime();
            }
            String words = "(" + pick + ", " + t + ", " + back + ", " + u + ")";
            if (onlyProbe) {
                due("probe" + words, desk.probe(pick, t, back, u), slow.probe(pick, t, back, u));
            } else {
                due("book" + words, desk.book(pick, t, back, u), slow.book(pick, t, back, u));
            }
        }

        private void due(String call, int got, int want) {
            calls++;
            if (got != want) {
                wrong++;
                if (wrong <= MOST_TOLD) {
                    System.out.println("run " + number + ": " + call + " answered " + got + ", due is " + want
                            + " after which there are " + slow);
                }
            }
        }

        private boolean odd(int oneIn) {
            return random.nextInt(oneIn) == 0;
        }

        private int oddNumber() {
            return ODD[random.nextInt(ODD.length)];
        }

        private int anyStock() {
            // Mostly few vehicles: where there are many, nothing is ever refused.
            return odd(15) ? oddNumber() : odd(4) ? random.nextInt(4) : random.nextInt(2);
        }

        private int anyId() {
            return odd(15) ? oddNumber() : random.nextInt(5);
        }

        private int anyStation() {
            return odd(15) ? oddNumber() : random.nextInt(4);
        }

        private int anyTime() {
            return odd(15) ? oddNumber() : random.nextInt(9);
        }

        private int anySet() {
            if (odd(20)) {
                return odd(2) ? 0 : oddNumber();
            }
            return odd(3) ? 1 + random.nextInt(15) : 1 << random.nextInt(4) | 1 << random.nextInt(4);
        }
    }

    private static int bit(boolean answer) {
        return answer ? 1 : 0;
    }

    /** The document's words, without any thought of speed. */
    private static final class SlowDesk {
        private final int capacity;
        private final int[] stocks;
        /** Each booking as pickup set, pickup time, return set, return time; null where none is. */
        private final int[][] booked = new int[5][];

        // What the good plans of the present state are like; looked at anew after every change.
        private boolean any;
        private final int[][] first = new int[5][];
        private final int[][] could = new int[5][2];
        private final int[][] most = new int[4][9];

        SlowDesk(int capacity, int at0, int at1, int at2) {
            this.capacity = Math.min(5, Math.max(1, capacity));
            stocks = new int[] {at0, at1, at2, 0};
            for (int s = 0; s < 4; s++) {
                stocks[s] = Math.min(3, Math.max(0, stocks[s]));
            }
            lookAtAllPlans();
        }

        int book(int pick, int t, int back, int u) {
            if (pick < 1 || pick > 15 || back < 1 || back > 15 || t < 0 || u <= t || u > 8) {
                return -1;
            }
            int id = 0;
            while (id < capacity && booked[id] != null) {
                id++;
            }
            if (id == capacity) {
                return -2;
            }
            booked[id] = new int[] {pick, t, back, u};
            lookAtAllPlans();
            if (!any) {
                booked[id] = null;
                lookAtAllPlans();
                return -3;
            }
            return id;
        }

        int probe(int pick, int t, int back, int u) {
            int answer = book(pick, t, back, u);
            if (answer >= 0) {
                booked[answer] = null;
                lookAtAllPlans();
            }
            return answer;
        }

        int cancel(int id) {
            if (!holds(id)) {
                return -1;
            }
            int[] old = booked[id];
            booked[id] = null;
            lookAtAllPlans();
            if (!any) {
                booked[id] = old;
                lookAtAllPlans();
                return -3;
            }
            return id;
        }

        int setStock(int s, int n) {
            if (s < 0 || s > 3 || n < 0 || n > 3) {
                return -1;
            }
            int old = stocks[s];
            stocks[s] = n;
            lookAtAllPlans();
            if (!any) {
                stocks[s] = old;
                lookAtAllPlans();
                return -3;
            }
            return n;
        }

        int stock(int s) {
            return s < 0 || s > 3 ? -1 : stocks[s];
        }

        int bookings() {
            int mask = 0;
            for (int id = 0; id < 5; id++) {
                mask |= booked[id] != null ? 1 << id : 0;
            }
            return mask;
        }

        int shortage(int pick, int t, int n) {
            if (pick < 1 || pick > 15 || t < 0 || t > 8 || n < 0 || n > 9) {
                return -1;
            }
            int least = Integer.MAX_VALUE;
            for (int[] plan = firstOfAll(); plan != null; plan = next(plan)) {
                least = Math.min(least, addedFor(left(plan), pick, t, n));
            }
            return least;
        }

        /** The fewest vehicles added to make this plan good with n further pickups, over all ways to share them out. */
        private int addedFor(int[][] left, int pick, int t, int n) {
            int[] fewest = new int[n + 1];
            Arrays.fill(fewest, 1, n + 1, 1000);
            for (int s = 0; s < 4; s++) {
                int[] before = fewest.clone();
                Arrays.fill(fewest, 1000);
                for (int here = 0; here <= ((pick >> s & 1) == 1 ? n : 0); here++) {
                    int added = 0;
                    for (int x = 0; x <= 8; x++) {
                        added = Math.max(added, (x >= t ? here : 0) - left[s][x]);
                    }
                    for (int all = here; all <= n; all++) {
                        fewest[all] = Math.min(fewest[all], before[all - here] + added);
                    }
                }
            }
            return fewest[n];
        }

        int spare(int s, int x) {
            return s < 0 || s > 3 || x < 0 || x > 8 ? -1 : most[s][x];
        }

        int stationOf(int id, int end) {
            return holds(id) ? first[id][end] : -1;
        }

        boolean could(int id, int end, int s) {
            return holds(id) && s >= 0 && s <= 3 && (could[id][end] >> s & 1) == 1;
        }

        private boolean holds(int id) {
            return id >= 0 && id < 5 && booked[id] != null;
        }

        private void lookAtAllPlans() {
            any = false;
            for (int id = 0; id < 5; id++) {
                Arrays.fill(could[id], 0);
            }
            for (int s = 0; s < 4; s++) {
                Arrays.fill(most[s], -1);
            }
            for (int[] plan = firstOfAll(); plan != null; plan = next(plan)) {
                int[][] left = left(plan);
                if (isGood(left)) {
                    note(plan, left);
                }
            }
        }

        private void note(int[] plan, int[][] left) {
            for (int id = 0; id < 5; id++) {
                // The plans come in the dictionary order, so the first good one is the least.
                first[id] = any ? first[id] : new int[] {plan[2 * id], plan[2 * id + 1]};
                if (booked[id] != null) {
                    could[id][0] |= 1 << plan[2 * id];
                    could[id][1] |= 1 << plan[2 * id + 1];
                }
            }
            any = true;
            for (int s = 0; s < 4; s++) {
                int least = Integer.MAX_VALUE;
                for (int x = 8; x >= 0; x--) {
                    least = Math.min(least, left[s][x]);
                    most[s][x] = Math.max(most[s][x], least);
                }
            }
        }

        /** What station end may be at, from s on; 4 when there is none. */
        private int stationFrom(int end, int s) {
            int[] booking = booked[end / 2];
            int station = s;
            while (station < 4 && (booking[end % 2 * 2] >> station & 1) == 0) {
                station++;
            }
            return station;
        }

        private int[] firstOfAll() {
            int[] plan = new int[10];
            for (int end = 0; end < 10; end++) {
                plan[end] = booked[end / 2] == null ? -1 : stationFrom(end, 0);
            }
            return plan;
        }

        /** The next plan in the dictionary order, good or not; null after the last. */
        private int[] next(int[] plan) {
            for (int end = 9; end >= 0; end--) {
                if (plan[end] >= 0) {
                    int station = stationFrom(end, plan[end] + 1);
                    if (station < 4) {
                        plan[end] = station;
                        return plan;
                    }
                    plan[end] = stationFrom(end, 0);
                }
            }
            return null;
        }

        private int[][] left(int[] plan) {
            int[][] left = new int[4][9];
            for (int s = 0; s < 4; s++) {
                for (int x = 0; x <= 8; x++) {
                    left[s][x] = stocks[s];
                }
            }
            for (int id = 0; id < 5; id++) {
                if (booked[id] != null) {
                    for (int x = booked[id][1]; x <= 8; x++) {
                        left[plan[2 * id]][x]--;
                    }
                    for (int x = booked[id][3]; x <= 8; x++) {
                        left[plan[2 * id + 1]][x]++;
                    }
                }
            }
            return left;
        }

        private static boolean isGood(int[][] left) {
            for (int[] atStation : left) {
                for (int number : atStation) {
                    if (number < 0) {
                        return false;
                    }
                }
            }
            return true;
        }

        @Override
        public String toString() {
            return "capacity " + capacity + ", stocks " + Arrays.toString(stocks)
                    + ", bookings " + Arrays.deepToString(booked);
        }
    }
}
