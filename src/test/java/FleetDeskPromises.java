/** The promises of the document one by one: ordinary inputs, the edges that the document names, and wrong inputs. */
public final class FleetDeskPromises extends Checks {
    private static final int[] NOT_STATIONS = {-1, 4, 5, 8, 32, -4, -32, Integer.MIN_VALUE, Integer.MAX_VALUE};
    private static final int[] NOT_SETS = {0, 16, 17, -1, -15, 31, 32, Integer.MIN_VALUE, Integer.MAX_VALUE};
    private static final int[] NOT_TIMES = {-1, 9, 10, -9, Integer.MIN_VALUE, Integer.MAX_VALUE};

    public static void main(String[] args) {
        promise1NewObject();
        promise1Clamps();
        promise2Answers();
        promise2WrongInputs();
        promise2OrderOfAnswers();
        promise2RefusalsByPlace();
        promise2RefusalsByTime();
        promise2OwnReturnHelpsOthers();
        promise2LeastNumber();
        promise2NothingChanges();
        promise3Probe();
        promise4Cancel();
        promise4Chain();
        promise5SetStock();
        promise5Refused();
        promise6Stock();
        promise7Bookings();
        promise8Shortage();
        promise8PresentBookings();
        promise8Edges();
        promise9Spare();
        promise9OtherPlans();
        promise9Edges();
        promise10And11FirstPlan();
        promise10And11ByNumber();
        promise10And11Edges();
        promise12CouldPick();
        promise13CouldReturn();
        promises12And13Edges();
        end();
    }

    private static void promise1NewObject() {
        FleetDesk d = new FleetDesk(3, 1, 2, 3);
        due("1: bookings() of a new object", d.bookings(), 0);
        due("1: stock(0) of a new object", d.stock(0), 1);
        due("1: stock(1) of a new object", d.stock(1), 2);
        due("1: stock(2) of a new object", d.stock(2), 3);
        due("1: stock(3) of a new object", d.stock(3), 0);
        due("1: pickupOf(0) of a new object", d.pickupOf(0), NONE);
    }

    private static void promise1Clamps() {
        int[] asked = {Integer.MIN_VALUE, -1, 0, 1, 2, 3, 4, 5, 6, 7, Integer.MAX_VALUE};
        int[] capacity = {1, 1, 1, 1, 2, 3, 4, 5, 5, 5, 5};
        int[] stock = {0, 0, 0, 1, 2, 3, 3, 3, 3, 3, 3};
        for (int i = 0; i < asked.length; i++) {
            FleetDesk d = new FleetDesk(asked[i], 3, 3, 3);
            for (int id = 0; id < capacity[i]; id++) {
                due("1: booking " + id + " at capacity " + asked[i], d.book(15, 0, 15, 8), id);
            }
            due("1: one booking too many at capacity " + asked[i], d.book(15, 0, 15, 8), FULL);
            for (int s = 0; s < 3; s++) {
                FleetDesk e = new FleetDesk(5, s == 0 ? asked[i] : 2, s == 1 ? asked[i] : 2, s == 2 ? asked[i] : 2);
                for (int other = 0; other < 4; other++) {
                    due("1: stock(" + other + ") when " + asked[i] + " is asked at " + s, e.stock(other),
                            other == s ? stock[i] : other == 3 ? 0 : 2);
                }
            }
        }
    }

    private static void promise2Answers() {
        FleetDesk d = new FleetDesk(5, 1, 0, 0);
        due("2: book where no vehicle is", d.book(2, 0, 1, 1), REFUSED);
        due("2: book where one is", d.book(1, 0, 2, 1), 0);
        due("2: book it a second time", d.book(1, 0, 2, 1), REFUSED);
        due("2: book what came back, at the time it comes back", d.book(2, 1, 4, 8), 1);
        due("2: bookings()", d.bookings(), 3);
    }

    private static void promise2WrongInputs() {
        for (int pick = -1; pick <= 17; pick++) {
            for (int back = -1; back <= 17; back++) {
                boolean right = pick >= 1 && pick <= 15 && back >= 1 && back <= 15;
                bookAndProbeOneOf(pick, 0, back, 8, right);
            }
        }
        for (int t = -2; t <= 10; t++) {
            for (int u = -2; u <= 10; u++) {
                bookAndProbeOneOf(15, t, 15, u, 0 <= t && t < u && u <= 8);
            }
        }
        for (int set : NOT_SETS) {
            bookAndProbeOneOf(set, 0, 1, 1, false);
            bookAndProbeOneOf(1, 0, set, 1, false);
        }
        for (int time : NOT_TIMES) {
            bookAndProbeOneOf(1, time, 1, 8, false);
            bookAndProbeOneOf(1, 0, 1, time, false);
            bookAndProbeOneOf(1, time, 1, time, false);
        }
        bookAndProbeOneOf(1, Integer.MAX_VALUE, 1, Integer.MIN_VALUE, false);
        bookAndProbeOneOf(1, Integer.MIN_VALUE, 1, Integer.MAX_VALUE, false);
    }

    private static void bookAndProbeOneOf(int pick, int t, int back, int u, boolean right) {
        FleetDesk d = new FleetDesk(5, 1, 1, 1);
        d.setStock(3, 1);
        String words = "(" + pick + ", " + t + ", " + back + ", " + u + ")";
        due("3: probe" + words, d.probe(pick, t, back, u), right ? 0 : BAD);
        due("3: bookings() after probe" + words, d.bookings(), 0);
        due("2: book" + words, d.book(pick, t, back, u), right ? 0 : BAD);
        due("2: bookings() after book" + words, d.bookings(), right ? 1 : 0);
    }

    private static void promise2OrderOfAnswers() {
        FleetDesk d = new FleetDesk(1, 1, 0, 0);
        due("2: BAD where it would be refused too", d.book(2, 3, 0, 4), BAD);
        due("2: the only booking", d.book(1, 0, 1, 1), 0);
        due("2: BAD when full", d.book(1, 4, 1, 4), BAD);
        due("2: FULL where it would be refused too", d.book(2, 3, 1, 4), FULL);
        due("2: FULL where it would be good", d.book(1, 3, 1, 4), FULL);
        due("3: BAD when full", d.probe(1, 4, 1, 4), BAD);
        due("3: FULL where it would be refused too", d.probe(2, 3, 1, 4), FULL);
        due("3: FULL where it would be good", d.probe(1, 3, 1, 4), FULL);
    }

    private static void promise2RefusalsByPlace() {
        FleetDesk d = new FleetDesk(5, 1, 1, 0);
        due("2: from 0 or 1", d.book(3, 0, 4, 2), 0);
        due("2: from 0, so that the first moves to 1", d.book(1, 0, 4, 2), 1);
        due("2: no third vehicle at 0 or 1", d.book(3, 1, 4, 3), REFUSED);
        due("2: none at 2 before time 2", d.book(4, 1, 4, 3), REFUSED);
        due("2: at 2 at time 2", d.book(4, 2, 1, 3), 2);
        due("2: the other at 2 at time 2", d.book(14, 2, 1, 3), 3);
        due("2: none left there", d.book(14, 2, 1, 3), REFUSED);
        due("2: both are back at 0 at time 3", d.book(1, 3, 8, 4), 4);
    }

    private static void promise2RefusalsByTime() {
        FleetDesk d = new FleetDesk(5, 1, 0, 0);
        due("2: out from 3 to 5", d.book(1, 3, 1, 5), 0);
        due("2: out at 2, not back by 3", d.book(1, 2, 1, 4), REFUSED);
        due("2: out from 2 to 3", d.book(1, 2, 1, 3), 1);
        due("2: out at 4", d.book(1, 4, 1, 8), REFUSED);
        due("2: out at 5", d.book(1, 5, 1, 8), 2);
        due("2: out from 0 to 2", d.book(1, 0, 1, 2), 3);
        due("2: out from 7", d.book(1, 7, 1, 8), REFUSED);
    }

    private static void promise2OwnReturnHelpsOthers() {
        FleetDesk d = new FleetDesk(5, 1, 0, 0);
        due("2: out from 5", d.book(1, 5, 1, 6), 0);
        due("2: back at another station, none for 5", d.book(1, 0, 2, 4), REFUSED);
        due("2: back too late for 5", d.book(1, 0, 1, 6), REFUSED);
        due("2: back in time for 5", d.book(1, 0, 3, 5), 1);
        due("2: its own return does not serve its pickup", d.book(8, 0, 8, 1), REFUSED);
    }

    private static void promise2LeastNumber() {
        FleetDesk d = new FleetDesk(4, 3, 3, 3);
        for (int id = 0; id < 4; id++) {
            due("2: number " + id, d.book(7, 0, 7, 8), id);
        }
        due("4: cancel(2)", d.cancel(2), 2);
        due("4: cancel(0)", d.cancel(0), 0);
        due("3: the least free number", d.probe(7, 1, 7, 2), 0);
        due("2: the least free number", d.book(7, 1, 7, 2), 0);
        due("2: the next free number", d.book(7, 1, 7, 2), 2);
        due("2: no free number", d.book(7, 1, 7, 2), FULL);
    }

    private static void promise2NothingChanges() {
        FleetDesk d = new FleetDesk(2, 1, 1, 0);
        d.book(3, 2, 12, 5);
        String before = look(d);
        due("2: refused", d.book(4, 0, 1, 1), REFUSED);
        same("2: after a refused booking", look(d), before);
        due("2: bad", d.book(1, 5, 1, 5), BAD);
        same("2: after a bad booking", look(d), before);
        due("2: good", d.book(1, 0, 1, 3), 1);
        before = look(d);
        due("2: full", d.book(2, 0, 2, 1), FULL);
        same("2: after a booking too many", look(d), before);
    }

    private static void promise3Probe() {
        FleetDesk d = new FleetDesk(3, 1, 1, 0);
        d.book(3, 2, 12, 5);
        String before = look(d);
        due("3: good", d.probe(1, 0, 2, 1), 1);
        same("3: after a good probe", look(d), before);
        due("3: good again", d.probe(3, 2, 2, 3), 1);
        same("3: after a second good probe", look(d), before);
        due("3: refused", d.probe(12, 2, 2, 3), REFUSED);
        same("3: after a refused probe", look(d), before);
        due("3: bad", d.probe(16, 2, 2, 3), BAD);
        same("3: after a bad probe", look(d), before);
        due("2: as probed", d.book(3, 2, 2, 3), 1);
        due("3: now refused", d.probe(3, 2, 2, 3), REFUSED);
        due("3: served by what comes back", d.probe(2, 3, 2, 4), 2);
    }

    private static void promise4Cancel() {
        FleetDesk d = new FleetDesk(5, 2, 0, 0);
        for (int id : new int[] {0, 1, 4, 5, 31, 32, -1, -32, Integer.MIN_VALUE, Integer.MAX_VALUE}) {
            due("4: cancel(" + id + ") without bookings", d.cancel(id), NONE);
        }
        d.book(1, 0, 1, 8);
        d.book(1, 0, 1, 8);
        for (int id : new int[] {2, 3, 4, 5, 32, 33, 64, -1, -31, -32, Integer.MIN_VALUE, Integer.MAX_VALUE}) {
            due("4: cancel(" + id + ") with bookings 0 and 1", d.cancel(id), NONE);
        }
        due("7: bookings()", d.bookings(), 3);
        due("4: cancel(1)", d.cancel(1), 1);
        due("7: bookings() after it", d.bookings(), 1);
        due("4: cancel(1) again", d.cancel(1), NONE);
        due("2: its vehicle is free", d.book(1, 7, 1, 8), 1);
        due("4: cancel(0)", d.cancel(0), 0);
        due("4: cancel(1), booked anew", d.cancel(1), 1);
        due("7: bookings() at the end", d.bookings(), 0);
    }

    private static void promise4Chain() {
        FleetDesk d = new FleetDesk(5, 1, 0, 0);
        d.book(1, 0, 2, 1);
        d.book(2, 1, 4, 2);
        d.book(6, 2, 6, 3);
        String before = look(d);
        due("4: cancel the first of a chain", d.cancel(0), REFUSED);
        same("4: after a refused cancel", look(d), before);
        // Without it the vehicle waits at 1, where the third may take it.
        due("4: cancel the middle", d.cancel(1), 1);
        due("10: the third is picked up at 1", d.pickupOf(2), 1);
        due("4: cancel the first yet", d.cancel(0), REFUSED);
        due("4: cancel the last", d.cancel(2), 2);
        due("4: cancel the first now", d.cancel(0), 0);
    }

    private static void promise5SetStock() {
        FleetDesk d = new FleetDesk(5, 1, 1, 1);
        for (int s = 0; s < 4; s++) {
            for (int n = 3; n >= 0; n--) {
                due("5: setStock(" + s + ", " + n + ")", d.setStock(s, n), n);
                due("6: stock(" + s + ") after it", d.stock(s), n);
            }
            due("5: setStock(" + s + ", 2)", d.setStock(s, 2), 2);
        }
        String before = look(d);
        for (int s : NOT_STATIONS) {
            due("5: setStock(" + s + ", 1)", d.setStock(s, 1), BAD);
        }
        for (int n : new int[] {-1, 4, 5, Integer.MIN_VALUE, Integer.MAX_VALUE}) {
            due("5: setStock(0, " + n + ")", d.setStock(0, n), BAD);
            due("5: setStock(3, " + n + ")", d.setStock(3, n), BAD);
        }
        same("5: after bad calls", look(d), before);
    }

    private static void promise5Refused() {
        FleetDesk d = new FleetDesk(5, 2, 1, 0);
        d.book(1, 4, 1, 5);
        d.book(3, 4, 4, 5);
        d.book(2, 7, 4, 8);
        String before = look(d);
        due("5: two at 0 are needed", d.setStock(0, 1), REFUSED);
        due("5: one at 1 is needed", d.setStock(1, 0), REFUSED);
        same("5: after refused calls", look(d), before);
        due("5: one more at 1", d.setStock(1, 2), 2);
        due("5: one at 0 is enough now", d.setStock(0, 1), 1);
        due("5: none at 0 is not", d.setStock(0, 0), REFUSED);
        due("5: the same again", d.setStock(0, 1), 1);
        due("5: BAD where it would be refused too", d.setStock(0, -1), BAD);
        due("6: stock(0)", d.stock(0), 1);
    }

    private static void promise6Stock() {
        FleetDesk d = new FleetDesk(5, 3, 2, 1);
        for (int s : NOT_STATIONS) {
            due("6: stock(" + s + ")", d.stock(s), NONE);
        }
        d.book(1, 0, 8, 8);
        due("6: a booking leaves the stock as it is", d.stock(0), 3);
        due("6: a return does too", d.stock(3), 0);
    }

    private static void promise7Bookings() {
        FleetDesk d = new FleetDesk(5, 3, 3, 3);
        int[] masks = {1, 3, 7, 15, 31};
        for (int id = 0; id < 5; id++) {
            d.book(7, 0, 7, 8);
            due("7: bookings() with " + (id + 1), d.bookings(), masks[id]);
        }
        d.cancel(1);
        due("7: bookings() without 1", d.bookings(), 29);
        d.cancel(4);
        due("7: bookings() without 1 and 4", d.bookings(), 13);
        d.cancel(0);
        due("7: bookings() without 0, 1 and 4", d.bookings(), 12);
    }

    private static void promise8Shortage() {
        FleetDesk d = new FleetDesk(1, 1, 2, 0);
        for (int n = 0; n <= 9; n++) {
            for (int t = 0; t <= 8; t++) {
                due("8: shortage(1, " + t + ", " + n + ")", d.shortage(1, t, n), Math.max(0, n - 1));
                due("8: shortage(3, " + t + ", " + n + ")", d.shortage(3, t, n), Math.max(0, n - 3));
                due("8: shortage(10, " + t + ", " + n + ")", d.shortage(10, t, n), Math.max(0, n - 2));
                due("8: shortage(12, " + t + ", " + n + ")", d.shortage(12, t, n), n);
            }
        }
        due("8: bookings() after it", d.bookings(), 0);
        due("8: stock(0) after it", d.stock(0), 1);
    }

    private static void promise8PresentBookings() {
        FleetDesk d = new FleetDesk(2, 1, 1, 0);
        d.book(3, 3, 4, 6);
        due("8: the present one moves to 1", d.shortage(1, 3, 1), 0);
        due("8: or to 0", d.shortage(2, 0, 1), 0);
        due("8: but not both", d.shortage(3, 0, 2), 1);
        due("8: a later booking needs what is there earlier", d.shortage(1, 0, 2), 1);
        due("8: none at 2 before 6", d.shortage(4, 5, 1), 1);
        due("8: one at 2 at 6", d.shortage(4, 6, 1), 0);
        due("8: one more than that", d.shortage(4, 8, 2), 1);
        due("8: what is anywhere at 6", d.shortage(7, 6, 4), 2);
        d.book(1, 0, 2, 1);
        due("8: full or not does not matter", d.shortage(15, 2, 2), 1);
        due("8: both are there at 6", d.shortage(7, 6, 9), 7);
        due("8: of two at 1, the first needs one", d.shortage(2, 1, 3), 2);
        due("7: bookings() after it", d.bookings(), 3);
    }

    private static void promise8Edges() {
        FleetDesk d = new FleetDesk(5, 0, 0, 0);
        for (int set : NOT_SETS) {
            due("8: shortage(" + set + ", 0, 0)", d.shortage(set, 0, 0), -1);
        }
        for (int time : NOT_TIMES) {
            due("8: shortage(1, " + time + ", 0)", d.shortage(1, time, 0), -1);
        }
        for (int n : new int[] {-1, 10, 11, Integer.MIN_VALUE, Integer.MAX_VALUE}) {
            due("8: shortage(1, 0, " + n + ")", d.shortage(1, 0, n), -1);
        }
        due("8: shortage(15, 8, 9)", d.shortage(15, 8, 9), 9);
        due("8: shortage(15, 0, 0)", d.shortage(15, 0, 0), 0);
    }

    private static void promise9Spare() {
        FleetDesk d = new FleetDesk(5, 2, 0, 1);
        d.book(1, 2, 2, 4);
        d.book(2, 6, 1, 8);
        int[][] want = {
            {1, 1, 1, 1, 1, 1, 1, 1, 2},
            {0, 0, 0, 0, 0, 0, 0, 0, 0},
            {1, 1, 1, 1, 1, 1, 1, 1, 1},
            {0, 0, 0, 0, 0, 0, 0, 0, 0}};
        for (int s = 0; s < 4; s++) {
            for (int x = 0; x <= 8; x++) {
                due("9: spare(" + s + ", " + x + ")", d.spare(s, x), want[s][x]);
            }
        }
        d.cancel(1);
        due("9: spare(1, 3)", d.spare(1, 3), 0);
        due("9: spare(1, 4)", d.spare(1, 4), 1);
        due("9: spare(1, 8)", d.spare(1, 8), 1);
    }

    private static void promise9OtherPlans() {
        FleetDesk d = new FleetDesk(5, 3, 1, 0);
        for (int id = 0; id < 5; id++) {
            d.book(3, id < 4 ? 0 : 1, 15, id < 4 ? 1 : 2);
        }
        due("9: all that come back may be brought to 3", d.spare(3, 2), 4);
        due("9: one of them goes out again at 1", d.spare(3, 1), 3);
        due("9: or to 0", d.spare(0, 2), 4);
        due("9: nothing is left at 0 at time 0", d.spare(0, 0), 0);
        FleetDesk e = new FleetDesk(5, 3, 3, 0);
        e.book(2, 0, 1, 1);
        e.book(2, 1, 1, 2);
        e.book(2, 2, 1, 3);
        e.book(1, 0, 1, 1);
        e.book(1, 1, 1, 2);
        due("9: stock and returns add up", e.spare(0, 8), 6);
        due("9: less while they are out", e.spare(0, 0), 2);
        due("9: nothing is left at 1", e.spare(1, 2), 0);
        FleetDesk f = new FleetDesk(5, 3, 3, 3);
        for (int id = 0; id < 5; id++) {
            f.book(6, 0, 1, 1);
        }
        due("9: the most there can be", f.spare(0, 1), 8);
        due("9: before they come", f.spare(0, 0), 3);
    }

    private static void promise9Edges() {
        FleetDesk d = new FleetDesk(5, 1, 2, 3);
        for (int s : NOT_STATIONS) {
            due("9: spare(" + s + ", 0)", d.spare(s, 0), NONE);
        }
        for (int x : NOT_TIMES) {
            due("9: spare(0, " + x + ")", d.spare(0, x), NONE);
        }
        for (int s = 0; s < 4; s++) {
            due("9: spare(" + s + ", 0) without bookings", d.spare(s, 0), (s + 1) % 4);
            due("9: spare(" + s + ", 8) without bookings", d.spare(s, 8), (s + 1) % 4);
        }
    }

    private static void promise10And11FirstPlan() {
        FleetDesk d = new FleetDesk(5, 1, 1, 0);
        d.book(3, 0, 14, 2);
        due("10: the least pickup station", d.pickupOf(0), 0);
        due("11: the least return station", d.returnOf(0), 1);
        d.book(1, 1, 12, 2);
        due("10: moved, as the other can only be at 0", d.pickupOf(0), 1);
        due("10: the other", d.pickupOf(1), 0);
        due("11: the other", d.returnOf(1), 2);
        d.book(8, 3, 1, 4);
        due("11: the first keeps its least", d.returnOf(0), 1);
        due("11: so the second serves the third", d.returnOf(1), 3);
        d.book(8, 3, 1, 4);
        due("11: now both go to 3", d.returnOf(0), 3);
        due("11: the second yet", d.returnOf(1), 3);
        due("11: the third", d.returnOf(2), 0);
        due("10: the third", d.pickupOf(2), 3);
        due("4: cancel(2)", d.cancel(2), 2);
        due("11: the first is at its least again", d.returnOf(0), 1);
    }

    private static void promise10And11ByNumber() {
        FleetDesk d = new FleetDesk(5, 1, 1, 0);
        d.book(3, 5, 3, 6);
        d.book(3, 0, 3, 8);
        due("10: the least number has the least station, though it is later", d.pickupOf(0), 0);
        due("10: the next number", d.pickupOf(1), 1);
        d.cancel(0);
        due("10: alone", d.pickupOf(1), 0);
        due("10: none holds 0", d.pickupOf(0), NONE);
        due("11: none holds 0", d.returnOf(0), NONE);
        due("2: the number again", d.book(3, 1, 2, 3), 0);
        due("10: before the number 1", d.pickupOf(0), 0);
        due("10: after the number 0", d.pickupOf(1), 1);
        FleetDesk e = new FleetDesk(5, 1, 0, 0);
        e.book(1, 0, 6, 1);
        e.book(6, 1, 15, 2);
        due("11: a return before the next pickup in the list", e.returnOf(0), 1);
        due("10: a pickup where the return was", e.pickupOf(1), 1);
        due("11: the last of the list", e.returnOf(1), 0);
    }

    private static void promise10And11Edges() {
        FleetDesk d = new FleetDesk(5, 3, 0, 0);
        d.book(1, 0, 2, 1);
        for (int id : new int[] {1, 2, 4, 5, 6, 31, 32, 64, -1, -32, Integer.MIN_VALUE, Integer.MAX_VALUE}) {
            due("10: pickupOf(" + id + ")", d.pickupOf(id), NONE);
            due("11: returnOf(" + id + ")", d.returnOf(id), NONE);
        }
        due("10: pickupOf(0)", d.pickupOf(0), 0);
        due("11: returnOf(0)", d.returnOf(0), 1);
    }

    private static void promise12CouldPick() {
        FleetDesk d = new FleetDesk(5, 1, 1, 0);
        d.book(7, 2, 7, 4);
        due("12: at 0", d.couldPick(0, 0), true);
        due("12: at 1", d.couldPick(0, 1), true);
        due("12: at 2, where none is", d.couldPick(0, 2), false);
        due("12: at 3, not in its set", d.couldPick(0, 3), false);
        d.book(1, 0, 15, 2);
        due("12: at 0, if the other comes back there", d.couldPick(0, 0), true);
        due("12: at 1", d.couldPick(0, 1), true);
        due("12: at 2, if the other comes back there", d.couldPick(0, 2), true);
        d.book(1, 3, 8, 8);
        due("12: at 0, the third takes what came back", d.couldPick(0, 0), false);
        due("12: at 1 yet", d.couldPick(0, 1), true);
        due("12: at 2, the other comes back to 0", d.couldPick(0, 2), false);
        due("12: the other at 0", d.couldPick(1, 0), true);
        due("12: the other at 1", d.couldPick(1, 1), false);
    }

    private static void promise13CouldReturn() {
        FleetDesk d = new FleetDesk(5, 1, 1, 0);
        d.book(1, 0, 14, 3);
        due("13: to 0, not in its set", d.couldReturn(0, 0), false);
        due("13: to 1", d.couldReturn(0, 1), true);
        due("13: to 2", d.couldReturn(0, 2), true);
        due("13: to 3", d.couldReturn(0, 3), true);
        d.book(6, 3, 1, 4);
        due("13: to 3, the second takes the one at 1", d.couldReturn(0, 3), true);
        d.book(2, 1, 15, 5);
        due("13: to 1, for the second", d.couldReturn(0, 1), true);
        due("13: to 2, for the second", d.couldReturn(0, 2), true);
        due("13: to 3, none for the second", d.couldReturn(0, 3), false);
        due("13: the second to 0", d.couldReturn(1, 0), true);
        due("13: the second to 1", d.couldReturn(1, 1), false);
        due("13: the third anywhere", d.couldReturn(2, 3), true);
        d.cancel(1);
        due("13: to 3 again", d.couldReturn(0, 3), true);
        due("13: none holds 1", d.couldReturn(1, 0), false);
    }

    private static void promises12And13Edges() {
        FleetDesk d = new FleetDesk(5, 3, 3, 3);
        d.setStock(3, 3);
        d.book(15, 0, 15, 8);
        for (int s : NOT_STATIONS) {
            due("12: couldPick(0, " + s + ")", d.couldPick(0, s), false);
            due("13: couldReturn(0, " + s + ")", d.couldReturn(0, s), false);
        }
        for (int id : new int[] {1, 4, 5, 6, 32, 64, -1, -32, Integer.MIN_VALUE, Integer.MAX_VALUE}) {
            due("12: couldPick(" + id + ", 0)", d.couldPick(id, 0), false);
            due("13: couldReturn(" + id + ", 0)", d.couldReturn(id, 0), false);
        }
        for (int s = 0; s < 4; s++) {
            due("12: couldPick(0, " + s + ")", d.couldPick(0, s), true);
            due("13: couldReturn(0, " + s + ")", d.couldReturn(0, s), true);
        }
    }
}
