import java.util.Random;

/** The boundary cases of the document's parts "What it is" and "Terms": for each sentence a test of its own. */
public final class FleetDeskTermsEdges extends Checks {
    public static void main(String[] args) {
        calls512OfAllMethods();
        calls512OfBookAndCancel();
        call512AfterRefusedOnes();
        stations();
        noOtherStation();
        timesOfBookings();
        timesOfQuestions();
        noOtherTime();
        stockAtTime0();
        laterTime();
        setsOfPickups();
        setsOfReturns();
        noOtherMove();
        notBroughtBackElsewhere();
        broughtBackAtX();
        broughtBackAtTheLastTime();
        pickedUpAtX();
        leftAtEveryStationAndTime();
        leftAtTheLastTime();
        leftInBetween();
        numbers();
        noBookLeavesNone();
        noCancelLeavesNone();
        noSetStockLeavesNone();
        alwaysAGoodPlan();
        end();
    }

    private static void calls512OfAllMethods() {
        sentence("What it is: at most 512 calls, of all methods");
        FleetDesk d = new FleetDesk(5, 1, 0, 0);
        for (int round = 0; round < 32; round++) {
            dueBook(d, 1, 0, 2, 1, 0);
            dueProbe(d, 2, 1, 1, 2, 1);
            dueBook(d, 2, 1, 1, 2, 1);
            dueBook(d, 0, 0, 1, 1, BAD);
            dueCancel(d, 0, REFUSED);
            dueSetStock(d, 0, 0, REFUSED);
            dueStock(d, 0, 1);
            dueBookings(d, 3);
            dueShortage(d, 1, 2, 2, 1);
            dueSpare(d, 0, 2, 1);
            duePickupOf(d, 1, 1);
            dueReturnOf(d, 1, 0);
            dueCouldReturn(d, 0, 0, false);
            dueCancel(d, 1, 1);
            dueCouldPick(d, 0, 0, true);
            dueCancel(d, 0, 0);
        }
    }

    private static void calls512OfBookAndCancel() {
        sentence("What it is: at most 512 calls, all of them changes");
        FleetDesk d = new FleetDesk(1, 0, 0, 1);
        for (int round = 0; round < 256; round++) {
            dueBook(d, 4, round % 8, 8, 8, 0);
            dueCancel(d, 0, 0);
        }
    }

    private static void call512AfterRefusedOnes() {
        sentence("What it is: at most 512 calls, the last after 511 that change nothing");
        FleetDesk d = new FleetDesk(5, 0, 1, 0);
        for (int call = 1; call <= 511; call++) {
            dueBook(d, 1, 0, 2, 8, REFUSED);
        }
        dueBook(d, 2, 0, 1, 8, 0);
    }

    private static void stations() {
        sentence("Terms: four stations 0 .. 3");
        for (int from = 0; from < 4; from++) {
            for (int to = 0; to < 4; to++) {
                FleetDesk d = deskWith(1, from, 1);
                dueBook(d, 1 << from, 0, 1 << to, 8, 0);
                duePickupOf(d, 0, from);
                dueReturnOf(d, 0, to);
                dueSpare(d, to, 8, 1);
            }
        }
    }

    private static void noOtherStation() {
        sentence("Terms: no station but 0 .. 3");
        for (int s : outside(0, 3)) {
            FleetDesk d = deskWithEverywhere(5, 1);
            dueBook(d, 15, 0, 15, 8, 0);
            dueStock(d, s, NONE);
            dueSpare(d, s, 0, NONE);
            dueSetStock(d, s, 1, BAD);
            dueCouldPick(d, 0, s, false);
            dueCouldReturn(d, 0, s, false);
        }
    }

    private static void timesOfBookings() {
        sentence("Terms: times 0 .. 8, in bookings");
        for (int t = 0; t <= 8; t++) {
            for (int u = t + 1; u <= 8; u++) {
                FleetDesk d = new FleetDesk(1, 1, 0, 0);
                dueBook(d, 1, t, 1, u, 0);
                dueBookings(d, 1);
            }
        }
    }

    private static void timesOfQuestions() {
        sentence("Terms: times 0 .. 8, in questions");
        for (int x = 0; x <= 8; x++) {
            FleetDesk d = new FleetDesk(1, 2, 0, 0);
            dueSpare(d, 0, x, 2);
            dueShortage(d, 1, x, 3, 1);
        }
    }

    private static void noOtherTime() {
        sentence("Terms: no time but 0 .. 8");
        for (int x : outside(0, 8)) {
            FleetDesk d = deskWithEverywhere(5, 3);
            dueBook(d, 15, x, 15, 8, BAD);
            dueBook(d, 15, 0, 15, x, BAD);
            dueProbe(d, 15, x, 15, 8, BAD);
            dueProbe(d, 15, 0, 15, x, BAD);
            dueSpare(d, 0, x, NONE);
            dueShortage(d, 15, x, 1, -1);
            dueBookings(d, 0);
        }
    }

    private static void stockAtTime0() {
        sentence("Terms: at time 0 station s has stock(s) vehicles");
        for (int s = 0; s < 4; s++) {
            for (int n = 0; n <= 3; n++) {
                FleetDesk d = deskWith(5, s, n);
                for (int id = 0; id < n; id++) {
                    dueBook(d, 1 << s, 0, 1 << s, 8, id);
                }
                dueBook(d, 1 << s, 0, 1 << s, 8, REFUSED);
                dueStock(d, s, n);
            }
        }
    }

    private static void laterTime() {
        sentence("Terms: a later time u at which it is brought back");
        for (int t = 0; t <= 8; t++) {
            for (int u = 0; u <= 8; u++) {
                FleetDesk d = new FleetDesk(5, 3, 3, 3);
                dueBook(d, 7, t, 7, u, u > t ? 0 : BAD);
            }
        }
    }

    private static void setsOfPickups() {
        sentence("Terms: sets of stations are ints whose bit s is set for station s, at the pickup");
        for (int set = 1; set <= 15; set++) {
            FleetDesk everywhere = deskWithEverywhere(5, 1);
            dueBook(everywhere, set, 3, 15, 4, 0);
            for (int s = 0; s < 4; s++) {
                boolean isIn = (set >> s & 1) == 1;
                dueCouldPick(everywhere, 0, s, isIn);
                dueBook(deskWith(5, s, 1), set, 3, 15, 4, isIn ? 0 : REFUSED);
                dueShortage(deskWith(5, s, 1), set, 3, 1, isIn ? 0 : 1);
            }
        }
    }

    private static void setsOfReturns() {
        sentence("Terms: sets of stations are ints whose bit s is set for station s, at the return");
        for (int set = 1; set <= 15; set++) {
            FleetDesk d = new FleetDesk(5, 1, 0, 0);
            dueBook(d, 1, 0, set, 4, 0);
            for (int s = 0; s < 4; s++) {
                boolean isIn = (set >> s & 1) == 1;
                dueCouldReturn(d, 0, s, isIn);
                dueProbe(d, 1 << s, 4, 15, 5, isIn ? 1 : REFUSED);
                dueSpare(d, s, 4, isIn ? 1 : 0);
            }
        }
    }

    private static void noOtherMove() {
        sentence("Terms: vehicles move in no other way, from where they stand");
        for (int s = 0; s < 4; s++) {
            FleetDesk d = deskWith(5, s, 3);
            int others = 15 - (1 << s);
            for (int x = 0; x <= 7; x++) {
                dueBook(d, others, x, 15, 8, REFUSED);
                dueShortage(d, others, x, 1, 1);
            }
            for (int other = 0; other < 4; other++) {
                dueSpare(d, other, 8, other == s ? 3 : 0);
            }
        }
    }

    private static void notBroughtBackElsewhere() {
        sentence("Terms: vehicles move in no other way, after they have been brought back");
        for (int to = 0; to < 4; to++) {
            FleetDesk d = new FleetDesk(5, 1, 0, 0);
            dueBook(d, 1, 1, 1 << to, 2, 0);
            for (int s = 0; s < 4; s++) {
                dueProbe(d, 1 << s, 7, 15, 8, s == to ? 1 : REFUSED);
            }
        }
    }

    private static void broughtBackAtX() {
        sentence("Terms: what comes back at time x can go out again at time x");
        for (int x = 1; x <= 7; x++) {
            FleetDesk d = new FleetDesk(5, 1, 0, 0);
            dueBook(d, 1, 0, 2, x, 0);
            for (int t = 0; t <= 7; t++) {
                dueProbe(d, 2, t, 1, 8, t >= x ? 1 : REFUSED);
                dueShortage(d, 2, t, 1, t >= x ? 0 : 1);
            }
            dueBook(d, 2, x, 1, 8, 1);
        }
    }

    private static void broughtBackAtTheLastTime() {
        sentence("Terms: what comes back at time 8 can go out again at time 8");
        FleetDesk d = new FleetDesk(5, 1, 0, 0);
        dueBook(d, 1, 0, 2, 8, 0);
        dueShortage(d, 2, 7, 1, 1);
        dueShortage(d, 2, 8, 1, 0);
        dueShortage(d, 2, 8, 2, 1);
        dueSpare(d, 1, 7, 0);
        dueSpare(d, 1, 8, 1);
    }

    private static void pickedUpAtX() {
        sentence("Terms: minus the bookings picked up at s at a time t <= x");
        // One vehicle of one station: two bookings of it fit when one is back no later than the other begins.
        for (int t = 0; t <= 7; t++) {
            for (int u = t + 1; u <= 8; u++) {
                for (int from = 0; from <= 7; from++) {
                    for (int to = from + 1; to <= 8; to++) {
                        FleetDesk d = new FleetDesk(5, 0, 0, 1);
                        dueBook(d, 4, t, 4, u, 0);
                        dueBook(d, 4, from, 4, to, to <= t || from >= u ? 1 : REFUSED);
                    }
                }
            }
        }
    }

    private static void leftAtEveryStationAndTime() {
        sentence("Terms: for every station and every time the number left is 0 or more");
        for (int s = 0; s < 4; s++) {
            for (int x = 0; x <= 7; x++) {
                FleetDesk d = deskWith(5, s, 1);
                dueBook(d, 1 << s, x, 1 << s, x + 1, 0);
                for (int y = 0; y <= 7; y++) {
                    dueProbe(d, 1 << s, y, 1 << s, y + 1, y == x ? REFUSED : 1);
                }
            }
        }
    }

    private static void leftAtTheLastTime() {
        sentence("Terms: every time 0 .. 8, the last of them too");
        for (int s = 0; s < 4; s++) {
            int other = 3 - s;
            FleetDesk d = deskWith(5, s, 1);
            dueBook(d, 1 << s, 7, 1 << other, 8, 0);
            dueShortage(d, 1 << s, 8, 1, 1);
            dueShortage(d, 1 << other, 8, 1, 0);
            dueSpare(d, s, 8, 0);
            dueSpare(d, other, 8, 1);
        }
    }

    private static void leftInBetween() {
        sentence("Terms: every time, those before a vehicle comes back too");
        FleetDesk d = new FleetDesk(5, 0, 1, 0);
        dueBook(d, 2, 0, 1, 5, 0);
        // At the end the number left at 0 would be 0 or more for each of these, but not from their pickup to time 5.
        for (int t = 0; t < 5; t++) {
            dueBook(d, 1, t, 1, t + 1, REFUSED);
            dueBook(d, 1, t, 1, 8, REFUSED);
        }
        dueBook(d, 1, 5, 1, 8, 1);
    }

    private static void numbers() {
        sentence("Terms: bookings hold numbers 0 .. capacity - 1");
        for (int capacity = 1; capacity <= 5; capacity++) {
            FleetDesk d = new FleetDesk(capacity, 3, 3, 3);
            for (int id = 0; id < capacity; id++) {
                dueBook(d, 7, 0, 7, 8, id);
            }
            dueBook(d, 7, 0, 7, 8, FULL);
            dueBookings(d, (1 << capacity) - 1);
            dueCouldPick(d, capacity - 1, 0, true);
            dueCouldPick(d, capacity, 0, false);
        }
    }

    private static void noBookLeavesNone() {
        sentence("Terms: every call that would leave no good plan is refused, book");
        for (int s = 0; s < 4; s++) {
            FleetDesk d = deskWith(5, s, 1);
            dueBook(d, 1 << s, 4, 1 << s, 5, 0);
            dueBook(d, 1 << s, 3, 15 - (1 << s), 4, REFUSED);
            dueBook(d, 1 << s, 3, 1 << s, 5, REFUSED);
            dueBook(d, 1 << s, 3, 15, 4, 1);
            dueCouldReturn(d, 1, 3 - s, false);
        }
    }

    private static void noCancelLeavesNone() {
        sentence("Terms: every call that would leave no good plan is refused, cancel");
        for (int s = 1; s < 4; s++) {
            FleetDesk d = new FleetDesk(5, 1, 0, 0);
            dueBook(d, 1, 0, 1 << s, 4, 0);
            dueBook(d, 1 << s, 4, 1, 5, 1);
            dueCancel(d, 0, REFUSED);
            dueCancel(d, 1, 1);
            dueCancel(d, 0, 0);
        }
    }

    private static void noSetStockLeavesNone() {
        sentence("Terms: every call that would leave no good plan is refused, setStock");
        for (int s = 0; s < 4; s++) {
            FleetDesk d = deskWith(5, s, 2);
            dueBook(d, 1 << s, 7, 1, 8, 0);
            dueSetStock(d, s, 1, 1);
            dueSetStock(d, s, 0, REFUSED);
            dueCancel(d, 0, 0);
            dueSetStock(d, s, 0, 0);
        }
    }

    private static void alwaysAGoodPlan() {
        sentence("Terms: there is always a good plan for the present bookings");
        for (int seed = 1; seed <= 400; seed++) {
            new Watched(seed).change(32);
        }
    }

    /** A desk whose first plan is counted through after every change. */
    private static final class Watched {
        private final Random random;
        private final FleetDesk desk;
        private final int[][] booked = new int[5][];

        Watched(int seed) {
            random = new Random(seed);
            desk = new FleetDesk(5, random.nextInt(2), random.nextInt(3), random.nextInt(2));
        }

        /** With the looks, 16 calls each time at most. */
        void change(int times) {
            for (int i = 0; i < times; i++) {
                int kind = random.nextInt(4);
                if (kind < 2) {
                    book();
                } else if (kind == 2) {
                    desk.cancel(random.nextInt(5));
                } else {
                    desk.setStock(random.nextInt(4), random.nextInt(3));
                }
                lookAtThePlan();
            }
        }

        private void book() {
            int t = random.nextInt(8);
            int[] asked = {1 + random.nextInt(15), t, 1 + random.nextInt(15), t + 1 + random.nextInt(8 - t)};
            int id = desk.book(asked[0], asked[1], asked[2], asked[3]);
            if (id >= 0) {
                booked[id] = asked;
            }
        }

        private void lookAtThePlan() {
            int[][] left = new int[4][9];
            for (int s = 0; s < 4; s++) {
                change(left[s], 0, desk.stock(s));
            }
            int held = desk.bookings();
            for (int id = 0; id < 5; id++) {
                if ((held >> id & 1) == 1) {
                    int from = desk.pickupOf(id);
                    int to = desk.returnOf(id);
                    due(from + " is a pickup station", from >= 0 && (booked[id][0] >> from & 1) == 1, true);
                    due(to + " is a return station", to >= 0 && (booked[id][2] >> to & 1) == 1, true);
                    change(left[from & 3], booked[id][1], -1);
                    change(left[to & 3], booked[id][3], 1);
                }
            }
            for (int s = 0; s < 4; s++) {
                for (int x = 0; x <= 8; x++) {
                    due("the plan leaves 0 or more at " + s + " at time " + x, left[s][x] >= 0, true);
                }
            }
        }

        private static void change(int[] left, int from, int by) {
            for (int x = from; x <= 8; x++) {
                left[x] += by;
            }
        }
    }
}
