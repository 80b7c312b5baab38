/** The boundary cases of promises 1 to 5, a new object and the calls that change one: for each a test of its own. */
public final class FleetDeskChangesEdges extends Checks {
    public static void main(String[] args) {
        newObject();
        book();
        probe();
        cancel();
        setStock();
        end();
    }

    private static void newObject() {
        newHasNoBookings();
        newHasNoneAtStation3();
        newHasTheStocksOfTheArguments();
        newCapacityTooSmall();
        newCapacityTooLarge();
        newCapacityWithin();
        newStockTooSmall();
        newStockTooLarge();
    }

    private static void book() {
        bookPickTooSmallOrTooLarge();
        bookBackTooSmallOrTooLarge();
        bookAllSetsThereAre();
        bookPickupTimeTooSmall();
        bookPickupTimeNotBeforeReturn();
        bookReturnTimeTooLarge();
        bookSeveralWrong();
        bookBadBeforeFull();
        bookBadBeforeRefused();
        bookFullBeforeRefused();
        bookFull();
        bookNotFullAfterCancel();
        bookRefusedWithoutVehicles();
        bookRefusedOneTooMany();
        bookNotRefusedWhenOthersCanMove();
        bookNotServedByItsOwnReturn();
        bookLeastNumber();
        bookLeastNumberOfEachCapacity();
        bookBadChangesNothing();
        bookFullChangesNothing();
        bookRefusedChangesNothing();
    }

    private static void probe() {
        probeBad();
        probeFull();
        probeRefused();
        probeNumber();
        probeAnswersWhatBookDoes();
        probeChangesNothing();
        probeFillsNothing();
    }

    private static void cancel() {
        cancelWithoutBookings();
        cancelNumberNotHeld();
        cancelTwice();
        cancelNoNumberAtAll();
        cancelRefused();
        cancelRefusedByTheLastMoment();
        cancelNotRefusedWhenOthersCanMove();
        cancelRefusedChangesNothing();
        cancelNoneChangesNothing();
        cancelAnswersId();
        cancelGivesBack();
    }

    private static void setStock() {
        setStockNoStation();
        setStockTooSmallOrTooLarge();
        setStockBothWrong();
        setStockAllThereAre();
        setStockBadBeforeRefused();
        setStockBadChangesNothing();
        setStockRefused();
        setStockRefusedByALaterTime();
        setStockNotRefusedWhenOthersCanMove();
        setStockRefusedChangesNothing();
        setStockToWhatItIs();
    }

    private static void newHasNoBookings() {
        sentence("1: no bookings");
        for (int capacity : new int[] {Integer.MIN_VALUE, -1, 0, 1, 3, 5, 6, Integer.MAX_VALUE}) {
            FleetDesk d = new FleetDesk(capacity, capacity, capacity, capacity);
            dueBookings(d, 0);
            for (int id = 0; id < 5; id++) {
                duePickupOf(d, id, NONE);
                dueReturnOf(d, id, NONE);
                dueCancel(d, id, NONE);
            }
        }
    }

    private static void newHasNoneAtStation3() {
        sentence("1: no vehicles at station 3");
        for (int n : new int[] {Integer.MIN_VALUE, -1, 0, 1, 2, 3, 4, Integer.MAX_VALUE}) {
            FleetDesk d = new FleetDesk(n, n, n, n);
            dueStock(d, 3, 0);
            dueSpare(d, 3, 0, 0);
            dueSpare(d, 3, 8, 0);
            dueShortage(d, 8, 8, 9, 9);
            dueBook(d, 8, 0, 8, 8, REFUSED);
        }
    }

    private static void newHasTheStocksOfTheArguments() {
        sentence("1: those of the arguments at stations 0, 1, 2");
        for (int stocks = 0; stocks < 64; stocks++) {
            int[] at = {stocks & 3, stocks >> 2 & 3, stocks >> 4};
            FleetDesk d = new FleetDesk(5, at[0], at[1], at[2]);
            for (int s = 0; s < 3; s++) {
                dueStock(d, s, at[s]);
                dueSpare(d, s, 0, at[s]);
            }
        }
    }

    private static void dueCapacity(int asked, int want) {
        FleetDesk d = new FleetDesk(asked, 3, 3, 3);
        for (int id = 0; id < want; id++) {
            due("booking " + id + " at capacity " + asked, d.book(7, 0, 7, 8), id);
        }
        due("one booking more at capacity " + asked, d.book(7, 0, 7, 8), FULL);
    }

    private static void newCapacityTooSmall() {
        sentence("1: capacity clamped to 1 .. 5, too small");
        for (int asked : outside(1, Integer.MAX_VALUE)) {
            dueCapacity(asked, 1);
        }
    }

    private static void newCapacityTooLarge() {
        sentence("1: capacity clamped to 1 .. 5, too large");
        for (int asked : outside(Integer.MIN_VALUE, 5)) {
            dueCapacity(asked, 5);
        }
    }

    private static void newCapacityWithin() {
        sentence("1: capacity clamped to 1 .. 5, within");
        for (int asked = 1; asked <= 5; asked++) {
            dueCapacity(asked, asked);
        }
    }

    /** Asks for the stock at each station alone and at all three: the others are as they were asked for. */
    private static void dueStockOfNew(int asked, int want) {
        for (int s = 0; s < 3; s++) {
            FleetDesk d = new FleetDesk(5, s == 0 ? asked : 1, s == 1 ? asked : 1, s == 2 ? asked : 1);
            for (int other = 0; other < 3; other++) {
                due("stock(" + other + ") when " + asked + " is asked at " + s, d.stock(other), other == s ? want : 1);
            }
            due("spare(" + s + ", 0) when " + asked + " is asked at it", d.spare(s, 0), want);
        }
        FleetDesk d = new FleetDesk(5, asked, asked, asked);
        due("vehicles when " + asked + " is asked at all", d.stock(0) + d.stock(1) + d.stock(2), 3 * want);
    }

    private static void newStockTooSmall() {
        sentence("1: each stock clamped to 0 .. 3, too small");
        for (int asked : outside(0, Integer.MAX_VALUE)) {
            dueStockOfNew(asked, 0);
        }
    }

    private static void newStockTooLarge() {
        sentence("1: each stock clamped to 0 .. 3, too large");
        for (int asked : outside(Integer.MIN_VALUE, 3)) {
            dueStockOfNew(asked, 3);
        }
    }

    private static void bookPickTooSmallOrTooLarge() {
        sentence("2: BAD unless pick is from 1 to 15");
        for (int pick : outside(1, 15)) {
            FleetDesk d = deskWithEverywhere(5, 3);
            dueBook(d, pick, 0, 15, 8, BAD);
            dueBookings(d, 0);
        }
    }

    private static void bookBackTooSmallOrTooLarge() {
        sentence("2: BAD unless back is from 1 to 15");
        for (int back : outside(1, 15)) {
            FleetDesk d = deskWithEverywhere(5, 3);
            dueBook(d, 15, 0, back, 8, BAD);
            dueBookings(d, 0);
        }
    }

    private static void bookAllSetsThereAre() {
        sentence("2: not BAD when pick and back are from 1 to 15");
        for (int pick = 1; pick <= 15; pick++) {
            for (int back = 1; back <= 15; back++) {
                dueBook(deskWithEverywhere(5, 1), pick, 0, back, 8, 0);
            }
        }
    }

    private static void bookPickupTimeTooSmall() {
        sentence("2: BAD unless 0 <= t");
        for (int t : outside(0, Integer.MAX_VALUE)) {
            for (int u = 0; u <= 8; u++) {
                dueBook(new FleetDesk(5, 3, 3, 3), 7, t, 7, u, BAD);
            }
        }
        dueBook(new FleetDesk(5, 3, 3, 3), 7, 0, 7, 1, 0);
    }

    private static void bookPickupTimeNotBeforeReturn() {
        sentence("2: BAD unless t < u");
        for (int t = 0; t <= 8; t++) {
            for (int u : outside(t + 1, Integer.MAX_VALUE)) {
                dueBook(new FleetDesk(5, 3, 3, 3), 7, t, 7, u, BAD);
            }
        }
        for (int u = 1; u <= 8; u++) {
            dueBook(new FleetDesk(5, 3, 3, 3), 7, u - 1, 7, u, 0);
        }
    }

    private static void bookReturnTimeTooLarge() {
        sentence("2: BAD unless u <= 8");
        for (int u : outside(Integer.MIN_VALUE, 8)) {
            for (int t : new int[] {0, 7, 8, u - 1, u}) {
                dueBook(new FleetDesk(5, 3, 3, 3), 7, t, 7, u, BAD);
            }
        }
        dueBook(new FleetDesk(5, 3, 3, 3), 7, 0, 7, 8, 0);
    }

    private static void bookSeveralWrong() {
        sentence("2: BAD, several arguments wrong");
        int[] some = {Integer.MIN_VALUE, -16, -1, 0, 1, 8, 9, 15, 16, Integer.MAX_VALUE};
        for (int pick : some) {
            for (int t : some) {
                for (int back : some) {
                    for (int u : some) {
                        boolean areSets = pick >= 1 && pick <= 15 && back >= 1 && back <= 15;
                        int want = areSets && 0 <= t && t < u && u <= 8 ? 0 : BAD;
                        dueBook(deskWithEverywhere(5, 1), pick, t, back, u, want);
                    }
                }
            }
        }
    }

    private static void bookBadBeforeFull() {
        sentence("2: by the first that applies, BAD before FULL");
        for (int capacity = 1; capacity <= 5; capacity++) {
            dueBadForEachArgument(fullDesk(capacity));
        }
    }

    private static void bookBadBeforeRefused() {
        sentence("2: by the first that applies, BAD before REFUSED");
        dueBadForEachArgument(new FleetDesk(5, 0, 0, 0));
    }

    private static void dueBadForEachArgument(FleetDesk d) {
        dueBook(d, 0, 0, 1, 1, BAD);
        dueBook(d, 16, 0, 1, 1, BAD);
        dueBook(d, 1, 0, 0, 1, BAD);
        dueBook(d, 1, 0, 16, 1, BAD);
        dueBook(d, 1, -1, 1, 1, BAD);
        dueBook(d, 1, 4, 1, 4, BAD);
        dueBook(d, 1, 0, 1, 9, BAD);
    }

    private static void bookFullBeforeRefused() {
        sentence("2: by the first that applies, FULL before REFUSED");
        for (int capacity = 1; capacity <= 5; capacity++) {
            // No vehicle is ever at station 3 of these.
            dueBook(fullDesk(capacity), 8, 0, 8, 8, FULL);
        }
    }

    private static void bookFull() {
        sentence("2: FULL when capacity bookings are there");
        for (int capacity = 1; capacity <= 5; capacity++) {
            FleetDesk d = new FleetDesk(capacity, 3, 3, 3);
            for (int id = 0; id < capacity; id++) {
                dueBook(d, 7, 0, 7, 8, id);
            }
            // Vehicles are left: it is the capacity alone that is in the way.
            dueShortage(d, 7, 0, 1, 0);
            dueBook(d, 7, 0, 7, 8, FULL);
            dueBook(d, 7, 0, 7, 8, FULL);
        }
    }

    private static void bookNotFullAfterCancel() {
        sentence("2: FULL when capacity bookings are there, no longer after a cancel");
        for (int capacity = 1; capacity <= 5; capacity++) {
            for (int id = 0; id < capacity; id++) {
                FleetDesk d = fullDesk(capacity);
                dueCancel(d, id, id);
                dueBook(d, 7, 0, 7, 8, id);
                dueBook(d, 7, 0, 7, 8, FULL);
            }
        }
    }

    private static void bookRefusedWithoutVehicles() {
        sentence("2: REFUSED when there would be no good plan, no vehicle at all");
        for (int set = 1; set <= 15; set++) {
            FleetDesk d = new FleetDesk(5, 0, 0, 0);
            for (int t = 0; t <= 7; t++) {
                dueBook(d, set, t, 15, 8, REFUSED);
            }
        }
    }

    private static void bookRefusedOneTooMany() {
        sentence("2: REFUSED when there would be no good plan, one more than there are vehicles");
        for (int set = 1; set <= 15; set++) {
            FleetDesk d = deskWithEverywhere(5, 1);
            int vehicles = Integer.bitCount(set);
            for (int id = 0; id < vehicles; id++) {
                dueBook(d, set, id, 15, 8, id);
            }
            dueBook(d, set, 7, 15, 8, REFUSED);
            dueBook(d, set, 0, 15, 8, REFUSED);
        }
    }

    private static void bookNotRefusedWhenOthersCanMove() {
        sentence("2: not REFUSED when there is a good plan after others have moved");
        FleetDesk pickups = new FleetDesk(5, 1, 1, 1);
        dueBook(pickups, 7, 0, 7, 8, 0);
        dueBook(pickups, 3, 0, 7, 8, 1);
        dueBook(pickups, 1, 0, 7, 8, 2);
        duePickupOf(pickups, 0, 2);
        dueBook(pickups, 7, 0, 7, 8, REFUSED);
        FleetDesk returns = new FleetDesk(5, 2, 0, 0);
        dueBook(returns, 1, 0, 14, 1, 0);
        dueBook(returns, 1, 0, 6, 1, 1);
        dueBook(returns, 4, 1, 1, 2, 2);
        dueBook(returns, 8, 1, 1, 2, 3);
        dueReturnOf(returns, 0, 3);
        dueBook(returns, 14, 1, 1, 2, REFUSED);
    }

    private static void bookNotServedByItsOwnReturn() {
        sentence("2: REFUSED when only its own return could serve it");
        for (int s = 0; s < 4; s++) {
            FleetDesk d = new FleetDesk(5, 0, 0, 0);
            for (int t = 0; t <= 7; t++) {
                dueBook(d, 1 << s, t, 1 << s, t + 1, REFUSED);
            }
        }
    }

    private static void bookLeastNumber() {
        sentence("2: the least number no booking holds");
        for (int held = 0; held < 31; held++) {
            FleetDesk d = deskHolding(held);
            int least = Integer.numberOfTrailingZeros(~held);
            dueBook(d, 15, 0, 15, 8, least);
            dueBookings(d, held | 1 << least);
        }
        dueBook(deskHolding(31), 15, 0, 15, 8, FULL);
    }

    private static void bookLeastNumberOfEachCapacity() {
        sentence("2: the least number no booking holds, given back in any order");
        for (int capacity = 2; capacity <= 5; capacity++) {
            for (int first = 0; first < capacity; first++) {
                for (int second = 0; second < capacity; second++) {
                    if (first != second) {
                        FleetDesk d = fullDesk(capacity);
                        dueCancel(d, first, first);
                        dueCancel(d, second, second);
                        dueBook(d, 7, 0, 7, 8, Math.min(first, second));
                        dueBook(d, 7, 0, 7, 8, Math.max(first, second));
                        dueBook(d, 7, 0, 7, 8, FULL);
                    }
                }
            }
        }
    }

    private static void bookBadChangesNothing() {
        sentence("2: a call that books nothing changes nothing, BAD");
        FleetDesk d = tightDesk();
        String before = look(d);
        for (int set : new int[] {0, 16, -1, Integer.MIN_VALUE, Integer.MAX_VALUE}) {
            dueBook(d, set, 0, 3, 1, BAD);
            dueBook(d, 3, 0, set, 1, BAD);
        }
        for (int time : new int[] {-1, 9, Integer.MIN_VALUE, Integer.MAX_VALUE}) {
            dueBook(d, 3, time, 3, 8, BAD);
            dueBook(d, 3, 0, 3, time, BAD);
        }
        dueBook(d, 3, 1, 3, 1, BAD);
        same("afterwards", look(d), before);
        dueBook(d, 2, 0, 4, 5, 1);
    }

    private static void bookFullChangesNothing() {
        sentence("2: a call that books nothing changes nothing, FULL");
        FleetDesk d = new FleetDesk(2, 1, 1, 0);
        d.book(3, 2, 12, 5);
        d.book(1, 0, 1, 3);
        String before = look(d);
        dueBook(d, 2, 0, 2, 1, FULL);
        dueBook(d, 15, 7, 8, 8, FULL);
        dueBook(d, 8, 0, 8, 1, FULL);
        same("afterwards", look(d), before);
        dueCancel(d, 0, 0);
        dueBook(d, 8, 0, 8, 1, REFUSED);
    }

    private static void bookRefusedChangesNothing() {
        sentence("2: a call that books nothing changes nothing, REFUSED");
        FleetDesk d = tightDesk();
        String before = look(d);
        dueBook(d, 4, 0, 1, 1, REFUSED);
        dueBook(d, 1, 0, 14, 8, REFUSED);
        dueBook(d, 12, 5, 15, 8, REFUSED);
        same("afterwards", look(d), before);
        dueCancel(d, 1, NONE);
        dueBook(d, 2, 0, 4, 5, 1);
    }

    private static void probeBad() {
        sentence("3: what book would answer now, BAD");
        for (int wrong : outside(1, 15)) {
            dueProbe(deskWithEverywhere(5, 3), wrong, 0, 15, 8, BAD);
            dueProbe(deskWithEverywhere(5, 3), 15, 0, wrong, 8, BAD);
        }
        for (int wrong : outside(0, 8)) {
            dueProbe(deskWithEverywhere(5, 3), 15, wrong, 15, 8, BAD);
            dueProbe(deskWithEverywhere(5, 3), 15, 0, 15, wrong, BAD);
        }
        for (int t = 0; t <= 8; t++) {
            for (int u = 0; u <= t; u++) {
                dueProbe(deskWithEverywhere(5, 3), 15, t, 15, u, BAD);
            }
        }
        dueProbe(fullDesk(3), 0, 0, 1, 1, BAD);
        dueProbe(new FleetDesk(5, 0, 0, 0), 1, 0, 0, 1, BAD);
    }

    private static void probeFull() {
        sentence("3: what book would answer now, FULL");
        for (int capacity = 1; capacity <= 5; capacity++) {
            FleetDesk d = fullDesk(capacity);
            dueProbe(d, 7, 0, 7, 8, FULL);
            dueProbe(d, 8, 0, 7, 8, FULL);
            dueCancel(d, 0, 0);
            dueProbe(d, 7, 0, 7, 8, 0);
        }
    }

    private static void probeRefused() {
        sentence("3: what book would answer now, REFUSED");
        FleetDesk d = tightDesk();
        dueProbe(d, 4, 0, 1, 1, REFUSED);
        dueProbe(d, 1, 0, 14, 8, REFUSED);
        dueProbe(d, 1, 0, 1, 2, 1);
        dueProbe(new FleetDesk(1, 0, 0, 0), 15, 0, 15, 8, REFUSED);
    }

    private static void probeNumber() {
        sentence("3: what book would answer now, the least number no booking holds");
        for (int held = 0; held < 31; held++) {
            dueProbe(deskHolding(held), 15, 0, 15, 8, Integer.numberOfTrailingZeros(~held));
        }
        dueProbe(deskHolding(31), 15, 0, 15, 8, FULL);
    }

    private static void probeAnswersWhatBookDoes() {
        sentence("3: what book with these arguments would answer now");
        for (int pick = 0; pick <= 16; pick++) {
            for (int back = 0; back <= 16; back++) {
                for (int t = -1; t <= 8; t++) {
                    FleetDesk d = tightDesk();
                    int answer = d.probe(pick, t, back, 7);
                    dueBook(d, pick, t, back, 7, answer);
                }
            }
        }
    }

    private static void probeChangesNothing() {
        sentence("3: changing nothing");
        FleetDesk d = tightDesk();
        String before = look(d);
        dueProbe(d, 2, 0, 4, 5, 1);
        same("after a number", look(d), before);
        dueProbe(d, 4, 0, 1, 1, REFUSED);
        dueProbe(d, 1, 1, 1, 1, BAD);
        same("after REFUSED and BAD", look(d), before);
        FleetDesk full = fullDesk(2);
        before = look(full);
        dueProbe(full, 1, 0, 1, 1, FULL);
        same("after FULL", look(full), before);
    }

    private static void probeFillsNothing() {
        sentence("3: changing nothing, as often as it is called");
        FleetDesk d = new FleetDesk(2, 1, 0, 0);
        for (int i = 0; i < 100; i++) {
            dueProbe(d, 1, 0, 2, 8, 0);
            dueBookings(d, 0);
        }
        dueBook(d, 1, 0, 2, 8, 0);
        dueProbe(d, 1, 0, 2, 8, REFUSED);
    }

    private static void cancelWithoutBookings() {
        sentence("4: NONE when no booking holds the number, no bookings");
        for (int id = 0; id < 5; id++) {
            FleetDesk d = new FleetDesk(5, 3, 3, 3);
            dueCancel(d, id, NONE);
            dueBookings(d, 0);
        }
    }

    private static void cancelNumberNotHeld() {
        sentence("4: NONE when no booking holds the number, others held");
        for (int held = 0; held < 32; held++) {
            for (int id = 0; id < 5; id++) {
                FleetDesk d = deskHolding(held);
                boolean isHeld = (held >> id & 1) == 1;
                dueCancel(d, id, isHeld ? id : NONE);
                dueBookings(d, held & ~(1 << id));
            }
        }
    }

    private static void cancelTwice() {
        sentence("4: NONE when no booking holds the number, already cancelled");
        for (int id = 0; id < 5; id++) {
            FleetDesk d = deskHolding(31);
            dueCancel(d, id, id);
            dueCancel(d, id, NONE);
            dueBookings(d, 31 - (1 << id));
        }
    }

    private static void cancelNoNumberAtAll() {
        sentence("4: NONE when no booking holds the number, not 0 .. capacity - 1");
        for (int capacity = 1; capacity <= 5; capacity++) {
            for (int id : outside(0, capacity - 1)) {
                FleetDesk d = fullDesk(capacity);
                dueCancel(d, id, NONE);
                dueBookings(d, (1 << capacity) - 1);
            }
        }
    }

    private static void cancelRefused() {
        sentence("4: REFUSED when without it there would be no good plan for the others");
        FleetDesk d = new FleetDesk(5, 1, 0, 0);
        dueBook(d, 1, 0, 2, 1, 0);
        dueBook(d, 2, 1, 4, 2, 1);
        dueBook(d, 4, 2, 8, 3, 2);
        dueBook(d, 8, 3, 1, 4, 3);
        dueBook(d, 1, 4, 1, 5, 4);
        for (int id = 0; id < 3; id++) {
            dueCancel(d, id, REFUSED);
        }
        // The vehicle is at 0 at the start and at 0 at time 4: the last needs all of the chain or nothing of it.
        dueCancel(d, 3, REFUSED);
        for (int id = 4; id >= 0; id--) {
            dueCancel(d, id, id);
        }
    }

    private static void cancelRefusedByTheLastMoment() {
        sentence("4: REFUSED when what it brings back is needed at that very time");
        for (int u = 1; u <= 7; u++) {
            FleetDesk d = new FleetDesk(5, 1, 0, 0);
            dueBook(d, 1, 0, 2, u, 0);
            dueBook(d, 2, u, 2, 8, 1);
            dueCancel(d, 0, REFUSED);
            dueSetStock(d, 1, 1, 1);
            dueCancel(d, 0, 0);
        }
    }

    private static void cancelNotRefusedWhenOthersCanMove() {
        sentence("4: not REFUSED when there is a good plan for the others after they have moved");
        FleetDesk d = new FleetDesk(5, 1, 0, 1);
        dueBook(d, 1, 0, 2, 1, 0);
        dueBook(d, 4, 0, 10, 1, 1);
        dueBook(d, 2, 1, 1, 2, 2);
        dueReturnOf(d, 1, 1);
        dueCancel(d, 0, 0);
        dueCouldReturn(d, 1, 3, false);
        dueCancel(d, 1, REFUSED);
    }

    private static void cancelRefusedChangesNothing() {
        sentence("4: REFUSED, changing nothing");
        FleetDesk d = tightDesk();
        String before = look(d);
        dueCancel(d, 0, REFUSED);
        dueCancel(d, 0, REFUSED);
        same("afterwards", look(d), before);
        dueBookings(d, 5);
        dueBook(d, 2, 0, 4, 5, 1);
    }

    private static void cancelNoneChangesNothing() {
        sentence("4: cancels booking id when one holds that number, so NONE changes nothing");
        FleetDesk d = tightDesk();
        String before = look(d);
        for (int id : new int[] {1, 3, 4, 5, 32, 34, -1, -32, -30, Integer.MIN_VALUE, Integer.MAX_VALUE}) {
            dueCancel(d, id, NONE);
        }
        same("afterwards", look(d), before);
    }

    private static void cancelAnswersId() {
        sentence("4: otherwise id");
        for (int id = 0; id < 5; id++) {
            dueCancel(deskHolding(31), id, id);
            dueCancel(deskHolding(1 << id), id, id);
        }
    }

    private static void cancelGivesBack() {
        sentence("4: cancels booking id: its number and its vehicle are free, what it brought back is not there");
        for (int s = 0; s < 4; s++) {
            FleetDesk d = deskWith(5, s, 1);
            int other = 3 - s;
            dueBook(d, 1 << s, 0, 1 << other, 4, 0);
            dueProbe(d, 1 << s, 7, 15, 8, REFUSED);
            dueProbe(d, 1 << other, 7, 15, 8, 1);
            dueCancel(d, 0, 0);
            duePickupOf(d, 0, NONE);
            dueProbe(d, 1 << s, 7, 15, 8, 0);
            dueProbe(d, 1 << other, 7, 15, 8, REFUSED);
        }
    }

    private static void setStockNoStation() {
        sentence("5: BAD unless 0 <= s <= 3");
        for (int s : outside(0, 3)) {
            FleetDesk d = new FleetDesk(5, 1, 2, 3);
            for (int n = 0; n <= 3; n++) {
                dueSetStock(d, s, n, BAD);
            }
            dueStocks(d, 1, 2, 3, 0);
        }
    }

    private static void setStockTooSmallOrTooLarge() {
        sentence("5: BAD unless 0 <= n <= 3");
        for (int n : outside(0, 3)) {
            FleetDesk d = new FleetDesk(5, 1, 2, 3);
            for (int s = 0; s < 4; s++) {
                dueSetStock(d, s, n, BAD);
            }
            dueStocks(d, 1, 2, 3, 0);
        }
    }

    private static void dueStocks(FleetDesk d, int at0, int at1, int at2, int at3) {
        dueStock(d, 0, at0);
        dueStock(d, 1, at1);
        dueStock(d, 2, at2);
        dueStock(d, 3, at3);
    }

    private static void setStockBothWrong() {
        sentence("5: BAD, both arguments wrong");
        int[] some = {Integer.MIN_VALUE, -1, 4, Integer.MAX_VALUE};
        for (int s : some) {
            for (int n : some) {
                dueSetStock(new FleetDesk(5, 1, 2, 3), s, n, BAD);
            }
        }
    }

    private static void setStockAllThereAre() {
        sentence("5: otherwise n, for every station and every stock");
        for (int s = 0; s < 4; s++) {
            for (int before = 0; before <= 3; before++) {
                for (int n = 0; n <= 3; n++) {
                    FleetDesk d = deskWith(5, s, before);
                    dueSetStock(d, s, n, n);
                    dueStock(d, s, n);
                    dueSpare(d, s, 0, n);
                    dueStock(d, 3 - s, 0);
                }
            }
        }
    }

    private static void setStockBadBeforeRefused() {
        sentence("5: BAD before REFUSED");
        FleetDesk d = tightDesk();
        dueSetStock(d, 0, 0, REFUSED);
        dueSetStock(d, 0, -1, BAD);
        dueSetStock(d, 0, Integer.MIN_VALUE, BAD);
    }

    private static void setStockBadChangesNothing() {
        sentence("5: BAD, so the stock of no station is changed");
        FleetDesk d = tightDesk();
        String before = look(d);
        for (int wrong : new int[] {-1, 4, 5, 32, -32, Integer.MIN_VALUE, Integer.MAX_VALUE}) {
            dueSetStock(d, wrong, 1, BAD);
            dueSetStock(d, 3, wrong, BAD);
        }
        same("afterwards", look(d), before);
    }

    private static void setStockRefused() {
        sentence("5: REFUSED when with it there would be no good plan");
        for (int s = 0; s < 4; s++) {
            for (int needed = 0; needed <= 3; needed++) {
                for (int n = 0; n <= 3; n++) {
                    FleetDesk d = deskWith(5, s, 3);
                    for (int id = 0; id < needed; id++) {
                        dueBook(d, 1 << s, 2, 15, 3, id);
                    }
                    dueSetStock(d, s, n, n < needed ? REFUSED : n);
                    dueStock(d, s, n < needed ? 3 : n);
                }
            }
        }
    }

    private static void setStockRefusedByALaterTime() {
        sentence("5: REFUSED when with it there would be no good plan, at whatever time");
        for (int t = 0; t <= 7; t++) {
            FleetDesk d = new FleetDesk(5, 0, 1, 0);
            dueBook(d, 2, t, 1, 8, 0);
            dueSetStock(d, 1, 0, REFUSED);
        }
        FleetDesk d = new FleetDesk(5, 1, 0, 0);
        dueBook(d, 1, 0, 2, 1, 0);
        dueBook(d, 2, 1, 1, 2, 1);
        dueSetStock(d, 1, 1, 1);
        dueSetStock(d, 0, 0, REFUSED);
        dueCancel(d, 0, 0);
        dueSetStock(d, 0, 0, 0);
        dueSetStock(d, 1, 0, REFUSED);
    }

    private static void setStockNotRefusedWhenOthersCanMove() {
        sentence("5: not REFUSED when there is a good plan after bookings have moved");
        FleetDesk d = new FleetDesk(5, 1, 1, 0);
        dueBook(d, 15, 0, 15, 8, 0);
        duePickupOf(d, 0, 0);
        dueSetStock(d, 0, 0, 0);
        duePickupOf(d, 0, 1);
        dueSetStock(d, 1, 0, REFUSED);
        dueSetStock(d, 3, 1, 1);
        dueSetStock(d, 1, 0, 0);
        duePickupOf(d, 0, 3);
    }

    private static void setStockRefusedChangesNothing() {
        sentence("5: REFUSED, changing nothing");
        FleetDesk d = tightDesk();
        String before = look(d);
        dueSetStock(d, 0, 0, REFUSED);
        dueSetStock(d, 0, 0, REFUSED);
        same("afterwards", look(d), before);
        dueStocks(d, 1, 1, 0, 0);
    }

    private static void setStockToWhatItIs() {
        sentence("5: otherwise n, also when it is the stock already");
        FleetDesk d = tightDesk();
        String before = look(d);
        dueSetStock(d, 0, 1, 1);
        dueSetStock(d, 1, 1, 1);
        dueSetStock(d, 2, 0, 0);
        dueSetStock(d, 3, 0, 0);
        same("afterwards", look(d), before);
    }
}
