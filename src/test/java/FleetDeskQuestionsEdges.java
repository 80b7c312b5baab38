/** The boundary cases of promises 6 to 13, the calls that only ask: for each sentence a test of its own. */
public final class FleetDeskQuestionsEdges extends Checks {
    public static void main(String[] args) {
        stockAndBookings();
        shortage();
        spare();
        pickupOfAndReturnOf();
        couldPick();
        couldReturn();
        questionsChangeNothing();
        end();
    }

    private static void stockAndBookings() {
        stockNoStation();
        stockOfEachStation();
        stockOnlyChangedBySetStock();
        bookingsNone();
        bookingsAll();
        bookingsGivenBack();
        bookingsOnlyOfThoseThatAreThere();
    }

    private static void shortage() {
        shortageNoSet();
        shortageNoTime();
        shortageNoNumber();
        shortageSeveralWrong();
        shortageAllThereAre();
        shortageOfNoFurther();
        shortageAsItIs();
        shortageCapacity();
        shortageLimitOfStocks();
        shortageNeverBroughtBack();
        shortageBesideThePresent();
        shortageAtTheTime();
        shortageWhereItServesBest();
    }

    private static void spare() {
        spareNoStation();
        spareNoTime();
        spareBothWrong();
        spareWithoutBookings();
        spareOfTimesFromX();
        spareIsTheLeast();
        spareIsTheGreatest();
        spareOfGoodPlansAlone();
        spareMost();
        spareNothing();
    }

    private static void pickupOfAndReturnOf() {
        pickupNumberNotHeld();
        pickupNoNumberAtAll();
        pickupCancelled();
        returnNumberNotHeld();
        returnNoNumberAtAll();
        returnCancelled();
        pickupLeastStation();
        returnLeastStation();
        pickupOnlyOfGoodPlans();
        returnOnlyOfGoodPlans();
        firstPlanPickupBeforeReturn();
        firstPlanReturnBeforeNextPickup();
        firstPlanByNumberNotByTime();
        firstPlanAfterNumbersAreGivenBack();
        firstPlanAllNumbers();
    }

    private static void couldPick() {
        couldPickNumberNotHeld();
        couldPickNoNumberAtAll();
        couldPickCancelled();
        couldPickNoStation();
        couldPickBothWrong();
        couldPickInSetAlone();
        couldPickWhereAVehicleIs();
        couldPickOutsideTheFirstPlan();
    }

    private static void couldReturn() {
        couldReturnNumberNotHeld();
        couldReturnNoNumberAtAll();
        couldReturnCancelled();
        couldReturnNoStation();
        couldReturnBothWrong();
        couldReturnInSetAlone();
        couldReturnWhatOthersNeed();
        couldReturnOutsideTheFirstPlan();
        couldReturnAtTheVeryTime();
    }

    private static void stockNoStation() {
        sentence("6: NONE when s is not 0 .. 3");
        for (int s : outside(0, 3)) {
            dueStock(deskWithEverywhere(5, 3), s, NONE);
        }
    }

    private static void stockOfEachStation() {
        sentence("6: the stock of station s");
        for (int s = 0; s < 4; s++) {
            for (int n = 0; n <= 3; n++) {
                FleetDesk d = deskWith(5, s, n);
                for (int other = 0; other < 4; other++) {
                    dueStock(d, other, other == s ? n : 0);
                }
            }
        }
    }

    private static void stockOnlyChangedBySetStock() {
        sentence("6: the stock of station s, whatever is booked");
        FleetDesk d = new FleetDesk(2, 3, 1, 0);
        dueBook(d, 1, 0, 8, 8, 0);
        dueBook(d, 2, 0, 4, 1, 1);
        dueBook(d, 1, 0, 4, 1, FULL);
        dueSetStock(d, 1, 0, REFUSED);
        dueSetStock(d, 1, 4, BAD);
        dueStock(d, 0, 3);
        dueStock(d, 1, 1);
        dueStock(d, 2, 0);
        dueStock(d, 3, 0);
        dueCancel(d, 0, 0);
        dueStock(d, 0, 3);
        dueSetStock(d, 0, 2, 2);
        dueStock(d, 0, 2);
    }

    private static void bookingsNone() {
        sentence("7: bit i is set when a booking holds i, no booking");
        dueBookings(new FleetDesk(5, 3, 3, 3), 0);
        dueBookings(new FleetDesk(1, 0, 0, 0), 0);
        FleetDesk d = new FleetDesk(5, 3, 3, 3);
        dueBook(d, 1, 0, 1, 1, 0);
        dueCancel(d, 0, 0);
        dueBookings(d, 0);
    }

    private static void bookingsAll() {
        sentence("7: bit i is set when a booking holds i, all numbers held");
        for (int capacity = 1; capacity <= 5; capacity++) {
            FleetDesk d = new FleetDesk(capacity, 3, 3, 3);
            for (int id = 0; id < capacity; id++) {
                dueBook(d, 7, 0, 7, 8, id);
                dueBookings(d, (2 << id) - 1);
            }
            dueBook(d, 7, 0, 7, 8, FULL);
            dueBookings(d, (1 << capacity) - 1);
        }
    }

    private static void bookingsGivenBack() {
        sentence("7: bit i is set when a booking holds i, numbers given back");
        for (int held = 0; held < 32; held++) {
            dueBookings(deskHolding(held), held);
        }
    }

    private static void bookingsOnlyOfThoseThatAreThere() {
        sentence("7: bit i is set when a booking holds i, not for calls that booked or cancelled nothing");
        FleetDesk d = tightDesk();
        dueBook(d, 4, 0, 4, 1, REFUSED);
        dueBookings(d, 5);
        dueBook(d, 16, 0, 4, 1, BAD);
        dueBookings(d, 5);
        dueProbe(d, 2, 0, 4, 5, 1);
        dueBookings(d, 5);
        dueCancel(d, 0, REFUSED);
        dueBookings(d, 5);
        dueCancel(d, 1, NONE);
        dueBookings(d, 5);
    }

    private static void shortageNoSet() {
        sentence("8: -1 unless pick is 1 .. 15");
        for (int pick : outside(1, 15)) {
            FleetDesk d = deskWithEverywhere(5, 3);
            dueShortage(d, pick, 0, 0, -1);
            dueShortage(d, pick, 8, 9, -1);
        }
    }

    private static void shortageNoTime() {
        sentence("8: -1 unless t is 0 .. 8");
        for (int t : outside(0, 8)) {
            FleetDesk d = deskWithEverywhere(5, 3);
            dueShortage(d, 15, t, 0, -1);
            dueShortage(d, 1, t, 9, -1);
        }
    }

    private static void shortageNoNumber() {
        sentence("8: -1 unless n is 0 .. 9");
        for (int n : outside(0, 9)) {
            FleetDesk d = deskWithEverywhere(5, 3);
            dueShortage(d, 15, 0, n, -1);
            dueShortage(d, 1, 8, n, -1);
        }
    }

    private static void shortageSeveralWrong() {
        sentence("8: -1, several arguments wrong");
        int[] some = {Integer.MIN_VALUE, -1, 0, 1, 8, 9, 10, 15, 16, Integer.MAX_VALUE};
        for (int pick : some) {
            for (int t : some) {
                for (int n : some) {
                    boolean isRight = pick >= 1 && pick <= 15 && t >= 0 && t <= 8 && n >= 0 && n <= 9;
                    dueShortage(new FleetDesk(5, 0, 0, 0), pick, t, n, isRight ? n : -1);
                }
            }
        }
    }

    private static void shortageAllThereAre() {
        sentence("8: the least number of vehicles that would have to be added, without bookings");
        for (int pick = 1; pick <= 15; pick++) {
            for (int t = 0; t <= 8; t++) {
                FleetDesk d = deskWithEverywhere(5, 1);
                FleetDesk empty = new FleetDesk(5, 0, 0, 0);
                for (int n = 0; n <= 9; n++) {
                    dueShortage(d, pick, t, n, Math.max(0, n - Integer.bitCount(pick)));
                    dueShortage(empty, pick, t, n, n);
                }
            }
        }
    }

    private static void shortageOfNoFurther() {
        sentence("8: 0 when there would be one as it is, for n = 0 always");
        for (int pick = 1; pick <= 15; pick++) {
            for (int t = 0; t <= 8; t++) {
                dueShortage(new FleetDesk(1, 0, 0, 0), pick, t, 0, 0);
                dueShortage(tightDesk(), pick, t, 0, 0);
            }
        }
    }

    private static void shortageAsItIs() {
        sentence("8: 0 when there would be one as it is");
        for (int s = 0; s < 4; s++) {
            for (int vehicles = 0; vehicles <= 3; vehicles++) {
                FleetDesk d = deskWith(5, s, vehicles);
                for (int n = 0; n <= vehicles; n++) {
                    dueShortage(d, 1 << s, 8, n, 0);
                }
                dueShortage(d, 1 << s, 8, vehicles + 1, 1);
            }
        }
    }

    private static void shortageCapacity() {
        sentence("8: the capacity does not matter");
        for (int capacity = 1; capacity <= 5; capacity++) {
            FleetDesk d = deskWithEverywhere(capacity, 3);
            dueShortage(d, 15, 0, 9, 0);
            for (int id = 0; id < capacity; id++) {
                dueBook(d, 15, 0, 15, 8, id);
            }
            dueBook(d, 15, 0, 15, 8, FULL);
            dueShortage(d, 15, 0, 9, Math.max(0, 9 + capacity - 12));
            dueShortage(d, 15, 8, 9, 0);
        }
    }

    private static void shortageLimitOfStocks() {
        sentence("8: the limit of 3 on stocks does not matter");
        for (int s = 0; s < 4; s++) {
            FleetDesk d = deskWith(5, s, 3);
            for (int n = 0; n <= 9; n++) {
                dueShortage(d, 1 << s, 0, n, Math.max(0, n - 3));
            }
            dueShortage(new FleetDesk(5, 0, 0, 0), 1 << s, 0, 9, 9);
            dueShortage(deskWithEverywhere(5, 3), 1 << s, 0, 9, 6);
        }
    }

    private static void shortageNeverBroughtBack() {
        sentence("8: none of them ever brought back");
        FleetDesk d = new FleetDesk(5, 1, 0, 0);
        dueBook(d, 1, 5, 1, 6, 0);
        for (int t = 0; t <= 8; t++) {
            // Before time 6 the vehicle would be missing at time 5 or is out then.
            dueShortage(d, 1, t, 1, t < 6 ? 1 : 0);
            dueShortage(d, 1, t, 2, t < 6 ? 2 : 1);
        }
    }

    private static void shortageBesideThePresent() {
        sentence("8: beside the present ones");
        FleetDesk d = new FleetDesk(5, 1, 1, 0);
        dueBook(d, 3, 0, 12, 4, 0);
        dueShortage(d, 1, 0, 1, 0);
        dueShortage(d, 2, 0, 1, 0);
        dueShortage(d, 3, 0, 1, 0);
        dueShortage(d, 3, 0, 2, 1);
        dueShortage(d, 4, 4, 1, 0);
        dueShortage(d, 8, 4, 1, 0);
        dueShortage(d, 12, 4, 2, 1);
        dueBook(d, 4, 4, 4, 5, 1);
        dueShortage(d, 8, 4, 1, 1);
        dueShortage(d, 4, 4, 1, 1);
        dueShortage(d, 4, 5, 1, 0);
    }

    private static void shortageAtTheTime() {
        sentence("8: each with the pickup time t, at which what comes back then can go out");
        for (int u = 1; u <= 8; u++) {
            FleetDesk d = new FleetDesk(5, 1, 0, 0);
            dueBook(d, 1, 0, 8, u, 0);
            for (int t = 0; t <= 8; t++) {
                dueShortage(d, 8, t, 1, t < u ? 1 : 0);
            }
        }
    }

    private static void shortageWhereItServesBest() {
        sentence("8: added at whatever stations serve best");
        FleetDesk d = new FleetDesk(5, 0, 0, 2);
        dueBook(d, 6, 0, 8, 1, 0);
        dueBook(d, 4, 0, 8, 1, 1);
        dueShortage(d, 1, 0, 1, 1);
        dueShortage(d, 4, 0, 2, 2);
        dueShortage(d, 15, 0, 9, 9);
        dueShortage(d, 8, 1, 2, 0);
        dueShortage(d, 8, 1, 5, 3);
        dueShortage(d, 15, 1, 3, 1);
    }

    private static void spareNoStation() {
        sentence("9: NONE when s is not 0 .. 3");
        for (int s : outside(0, 3)) {
            FleetDesk d = deskWithEverywhere(5, 3);
            dueSpare(d, s, 0, NONE);
            dueSpare(d, s, 8, NONE);
        }
    }

    private static void spareNoTime() {
        sentence("9: NONE when x is not 0 .. 8");
        for (int x : outside(0, 8)) {
            FleetDesk d = deskWithEverywhere(5, 3);
            for (int s = 0; s < 4; s++) {
                dueSpare(d, s, x, NONE);
            }
        }
    }

    private static void spareBothWrong() {
        sentence("9: NONE, both arguments wrong");
        for (int s : new int[] {Integer.MIN_VALUE, -1, 4, Integer.MAX_VALUE}) {
            for (int x : new int[] {Integer.MIN_VALUE, -1, 9, Integer.MAX_VALUE}) {
                dueSpare(deskWithEverywhere(5, 3), s, x, NONE);
            }
        }
    }

    private static void spareWithoutBookings() {
        sentence("9: the greatest number that can be left over, without bookings");
        for (int s = 0; s < 4; s++) {
            for (int n = 0; n <= 3; n++) {
                FleetDesk d = deskWith(5, s, n);
                for (int x = 0; x <= 8; x++) {
                    dueSpare(d, s, x, n);
                    dueSpare(d, 3 - s, x, 0);
                }
            }
        }
    }

    private static void spareOfTimesFromX() {
        sentence("9: the numbers left at s at the times x .. 8, those before x do not count");
        for (int t = 0; t <= 7; t++) {
            for (int u = t + 1; u <= 8; u++) {
                FleetDesk d = new FleetDesk(5, 1, 0, 1);
                dueBook(d, 1, t, 4, u, 0);
                for (int x = 0; x <= 8; x++) {
                    dueSpare(d, 0, x, 0);
                    dueSpare(d, 2, x, x < u ? 1 : 2);
                }
            }
        }
    }

    private static void spareIsTheLeast() {
        sentence("9: the least of the numbers left at s at the times x .. 8, later ones count");
        for (int t = 0; t <= 7; t++) {
            for (int u = t + 1; u <= 8; u++) {
                FleetDesk d = new FleetDesk(5, 0, 2, 0);
                dueBook(d, 2, t, 2, u, 0);
                for (int x = 0; x <= 8; x++) {
                    dueSpare(d, 1, x, x < u ? 1 : 2);
                }
            }
        }
    }

    private static void spareIsTheGreatest() {
        sentence("9: the greatest over all good plans");
        FleetDesk d = new FleetDesk(5, 1, 1, 1);
        dueBook(d, 7, 0, 15, 4, 0);
        for (int s = 0; s < 3; s++) {
            dueSpare(d, s, 0, 1);
            dueSpare(d, s, 3, 1);
            dueSpare(d, s, 4, 2);
        }
        dueSpare(d, 3, 3, 0);
        dueSpare(d, 3, 4, 1);
    }

    private static void spareOfGoodPlansAlone() {
        sentence("9: the greatest over all good plans, and over no others");
        FleetDesk d = new FleetDesk(5, 1, 1, 0);
        dueBook(d, 3, 0, 12, 4, 0);
        dueBook(d, 1, 0, 8, 8, 1);
        dueSpare(d, 1, 0, 0);
        dueSpare(d, 3, 4, 1);
        dueSpare(d, 3, 8, 2);
        dueBook(d, 4, 4, 4, 5, 2);
        dueSpare(d, 3, 4, 0);
        dueSpare(d, 3, 8, 1);
        dueSpare(d, 2, 4, 0);
        dueSpare(d, 2, 5, 1);
    }

    private static void spareMost() {
        sentence("9: the greatest number, more than a stock may be");
        for (int s = 0; s < 4; s++) {
            FleetDesk d = deskWithEverywhere(5, 3);
            for (int id = 0; id < 5; id++) {
                dueBook(d, 15 - (1 << s), 0, 1 << s, 8, id);
            }
            dueSpare(d, s, 7, 3);
            dueSpare(d, s, 8, 8);
        }
    }

    private static void spareNothing() {
        sentence("9: the greatest number, 0 when nothing can be left over");
        FleetDesk empty = new FleetDesk(5, 0, 0, 0);
        for (int s = 0; s < 4; s++) {
            dueSpare(empty, s, 0, 0);
            dueSpare(empty, s, 8, 0);
            FleetDesk d = deskWith(5, s, 1);
            dueBook(d, 1 << s, 7, 1 << (3 - s), 8, 0);
            for (int x = 0; x <= 8; x++) {
                dueSpare(d, s, x, 0);
            }
        }
    }

    private static void pickupNumberNotHeld() {
        sentence("10: NONE when no booking holds the number");
        for (int held = 0; held < 32; held++) {
            FleetDesk d = deskHolding(held);
            for (int id = 0; id < 5; id++) {
                due("pickupOf(" + id + ") is NONE", d.pickupOf(id) == NONE, (held >> id & 1) == 0);
            }
        }
    }

    private static void pickupNoNumberAtAll() {
        sentence("10: NONE when no booking holds the number, not 0 .. capacity - 1");
        for (int capacity = 1; capacity <= 5; capacity++) {
            for (int id : outside(0, capacity - 1)) {
                duePickupOf(fullDesk(capacity), id, NONE);
            }
        }
    }

    private static void pickupCancelled() {
        sentence("10: NONE when no booking holds the number, cancelled");
        for (int id = 0; id < 5; id++) {
            FleetDesk d = fullDesk(5);
            dueCancel(d, id, id);
            duePickupOf(d, id, NONE);
            dueProbe(d, 1, 0, 1, 1, id);
            duePickupOf(d, id, NONE);
        }
    }

    private static void returnNumberNotHeld() {
        sentence("11: NONE when no booking holds the number");
        for (int held = 0; held < 32; held++) {
            FleetDesk d = deskHolding(held);
            for (int id = 0; id < 5; id++) {
                dueReturnOf(d, id, (held >> id & 1) == 1 ? 0 : NONE);
            }
        }
    }

    private static void returnNoNumberAtAll() {
        sentence("11: NONE when no booking holds the number, not 0 .. capacity - 1");
        for (int capacity = 1; capacity <= 5; capacity++) {
            for (int id : outside(0, capacity - 1)) {
                dueReturnOf(fullDesk(capacity), id, NONE);
            }
        }
    }

    private static void returnCancelled() {
        sentence("11: NONE when no booking holds the number, cancelled");
        for (int id = 0; id < 5; id++) {
            FleetDesk d = fullDesk(5);
            dueCancel(d, id, id);
            dueReturnOf(d, id, NONE);
            dueProbe(d, 1, 0, 1, 1, id);
            dueReturnOf(d, id, NONE);
        }
    }

    private static void pickupLeastStation() {
        sentence("10: the first plan, the least pickup station of the set");
        for (int set = 1; set <= 15; set++) {
            FleetDesk d = deskWithEverywhere(5, 1);
            dueBook(d, set, 3, 15, 4, 0);
            duePickupOf(d, 0, Integer.numberOfTrailingZeros(set));
        }
    }

    private static void returnLeastStation() {
        sentence("11: the first plan, the least return station of the set");
        for (int set = 1; set <= 15; set++) {
            FleetDesk d = deskWithEverywhere(5, 1);
            dueBook(d, 15, 3, set, 4, 0);
            dueReturnOf(d, 0, Integer.numberOfTrailingZeros(set));
        }
    }

    private static void pickupOnlyOfGoodPlans() {
        sentence("10: of all good plans, so only where a vehicle is");
        for (int s = 0; s < 4; s++) {
            FleetDesk d = deskWith(5, s, 1);
            dueBook(d, 15, 3, 15, 4, 0);
            duePickupOf(d, 0, s);
        }
    }

    private static void returnOnlyOfGoodPlans() {
        sentence("11: of all good plans, so where what it brings back is needed");
        for (int s = 0; s < 4; s++) {
            FleetDesk d = new FleetDesk(5, 1, 0, 0);
            dueBook(d, 1, 0, 15, 4, 0);
            dueReturnOf(d, 0, 0);
            dueBook(d, 1 << s, 4, 15, 5, 1);
            dueReturnOf(d, 0, s);
            dueReturnOf(d, 1, 0);
        }
    }

    private static void firstPlanPickupBeforeReturn() {
        sentence("10 and 11: in the list the pickup station comes before the return station");
        FleetDesk d = new FleetDesk(5, 1, 1, 0);
        dueBook(d, 3, 0, 12, 4, 0);
        dueBook(d, 9, 4, 1, 5, 1);
        // Picked up at 1, the first could be brought back to 2; but then it would not be picked up at 0.
        duePickupOf(d, 0, 0);
        dueReturnOf(d, 0, 3);
        duePickupOf(d, 1, 3);
        dueReturnOf(d, 1, 0);
    }

    private static void firstPlanReturnBeforeNextPickup() {
        sentence("10 and 11: in the list both stations of a number come before those of the next number");
        FleetDesk d = new FleetDesk(5, 1, 0, 0);
        dueSetStock(d, 3, 1, 1);
        dueBook(d, 1, 0, 6, 4, 0);
        dueBook(d, 12, 4, 1, 5, 1);
        // Brought back to 2, the first would let the second be picked up at 2; but 1 is less.
        dueReturnOf(d, 0, 1);
        duePickupOf(d, 1, 3);
    }

    private static void firstPlanByNumberNotByTime() {
        sentence("10 and 11: the booking with the least number first, whatever the times");
        FleetDesk d = new FleetDesk(5, 1, 1, 1);
        dueBook(d, 7, 6, 7, 8, 0);
        dueBook(d, 7, 3, 8, 7, 1);
        dueBook(d, 7, 0, 8, 8, 2);
        for (int id = 0; id < 3; id++) {
            duePickupOf(d, id, id);
        }
        dueReturnOf(d, 0, 0);
    }

    private static void firstPlanAfterNumbersAreGivenBack() {
        sentence("10 and 11: then those of the booking with the next number, where numbers are free between");
        FleetDesk d = new FleetDesk(5, 1, 1, 1);
        dueBook(d, 7, 0, 8, 8, 0);
        dueBook(d, 7, 0, 8, 8, 1);
        dueBook(d, 7, 0, 8, 8, 2);
        dueCancel(d, 0, 0);
        duePickupOf(d, 1, 0);
        duePickupOf(d, 2, 1);
        dueCancel(d, 1, 1);
        duePickupOf(d, 2, 0);
        dueBook(d, 7, 5, 8, 8, 0);
        duePickupOf(d, 0, 0);
        duePickupOf(d, 2, 1);
        duePickupOf(d, 1, NONE);
    }

    private static void firstPlanAllNumbers() {
        sentence("10 and 11: the first plan of five bookings");
        FleetDesk d = deskWithEverywhere(5, 1);
        dueBook(d, 15, 0, 15, 2, 0);
        dueBook(d, 15, 0, 14, 2, 1);
        dueBook(d, 12, 0, 12, 2, 2);
        dueBook(d, 4, 0, 8, 2, 3);
        dueBook(d, 8, 2, 15, 3, 4);
        int[] pickups = {0, 1, 3, 2, 3};
        int[] returns = {0, 1, 2, 3, 0};
        for (int id = 4; id >= 0; id--) {
            duePickupOf(d, id, pickups[id]);
            dueReturnOf(d, id, returns[id]);
        }
    }

    private static void couldPickNumberNotHeld() {
        sentence("12: false when no booking holds the number");
        for (int held = 0; held < 32; held++) {
            FleetDesk d = deskHolding(held);
            for (int id = 0; id < 5; id++) {
                for (int s = 0; s < 4; s++) {
                    dueCouldPick(d, id, s, (held >> id & 1) == 1);
                }
            }
        }
    }

    private static void couldPickNoNumberAtAll() {
        sentence("12: false when no booking holds the number, not 0 .. capacity - 1");
        for (int capacity = 1; capacity <= 5; capacity++) {
            for (int id : outside(0, capacity - 1)) {
                FleetDesk d = fullDesk(capacity);
                for (int s = 0; s < 4; s++) {
                    dueCouldPick(d, id, s, false);
                }
            }
        }
    }

    private static void couldPickCancelled() {
        sentence("12: false when no booking holds the number, cancelled");
        for (int id = 0; id < 5; id++) {
            FleetDesk d = fullDesk(5);
            dueCouldPick(d, id, 0, true);
            dueCancel(d, id, id);
            dueCouldPick(d, id, 0, false);
            dueProbe(d, 1, 0, 1, 1, id);
            dueCouldPick(d, id, 0, false);
        }
    }

    private static void couldPickNoStation() {
        sentence("12: false when s is not 0 .. 3");
        for (int s : outside(0, 3)) {
            FleetDesk d = deskHolding(31);
            for (int id = 0; id < 5; id++) {
                dueCouldPick(d, id, s, false);
            }
        }
    }

    private static void couldPickBothWrong() {
        sentence("12: false, both arguments wrong");
        for (int id : new int[] {Integer.MIN_VALUE, -1, 5, 32, Integer.MAX_VALUE}) {
            for (int s : new int[] {Integer.MIN_VALUE, -1, 4, 32, Integer.MAX_VALUE}) {
                dueCouldPick(deskHolding(31), id, s, false);
            }
        }
    }

    private static void couldReturnNumberNotHeld() {
        sentence("13: false when no booking holds the number");
        for (int held = 0; held < 32; held++) {
            FleetDesk d = deskHolding(held);
            for (int id = 0; id < 5; id++) {
                for (int s = 0; s < 4; s++) {
                    dueCouldReturn(d, id, s, (held >> id & 1) == 1);
                }
            }
        }
    }

    private static void couldReturnNoNumberAtAll() {
        sentence("13: false when no booking holds the number, not 0 .. capacity - 1");
        for (int capacity = 1; capacity <= 5; capacity++) {
            for (int id : outside(0, capacity - 1)) {
                FleetDesk d = fullDesk(capacity);
                for (int s = 0; s < 4; s++) {
                    dueCouldReturn(d, id, s, false);
                }
            }
        }
    }

    private static void couldReturnCancelled() {
        sentence("13: false when no booking holds the number, cancelled");
        for (int id = 0; id < 5; id++) {
            FleetDesk d = fullDesk(5);
            dueCouldReturn(d, id, 0, true);
            dueCancel(d, id, id);
            dueCouldReturn(d, id, 0, false);
            dueProbe(d, 1, 0, 1, 1, id);
            dueCouldReturn(d, id, 0, false);
        }
    }

    private static void couldReturnNoStation() {
        sentence("13: false when s is not 0 .. 3");
        for (int s : outside(0, 3)) {
            FleetDesk d = deskHolding(31);
            for (int id = 0; id < 5; id++) {
                dueCouldReturn(d, id, s, false);
            }
        }
    }

    private static void couldReturnBothWrong() {
        sentence("13: false, both arguments wrong");
        for (int id : new int[] {Integer.MIN_VALUE, -1, 5, 32, Integer.MAX_VALUE}) {
            for (int s : new int[] {Integer.MIN_VALUE, -1, 4, 32, Integer.MAX_VALUE}) {
                dueCouldReturn(deskHolding(31), id, s, false);
            }
        }
    }

    private static void couldPickInSetAlone() {
        sentence("12: some good plan picks it up at s, so only at a station of its set");
        for (int set = 1; set <= 15; set++) {
            FleetDesk d = deskWithEverywhere(5, 1);
            dueBook(d, set, 3, 1, 4, 0);
            for (int s = 0; s < 4; s++) {
                dueCouldPick(d, 0, s, (set >> s & 1) == 1);
            }
        }
    }

    private static void couldPickWhereAVehicleIs() {
        sentence("12: some good plan picks it up at s, so only where a vehicle is then");
        for (int t = 0; t <= 7; t++) {
            FleetDesk d = new FleetDesk(5, 1, 1, 0);
            dueBook(d, 2, 0, 8, 4, 0);
            dueBook(d, 15, t, 15, 8, 1);
            dueCouldPick(d, 1, 0, true);
            dueCouldPick(d, 1, 1, false);
            dueCouldPick(d, 1, 2, false);
            dueCouldPick(d, 1, 3, t >= 4);
        }
    }

    private static void couldPickOutsideTheFirstPlan() {
        sentence("12: some good plan, not the first alone");
        FleetDesk d = new FleetDesk(5, 1, 1, 1);
        dueBook(d, 7, 0, 8, 8, 0);
        dueBook(d, 7, 0, 8, 8, 1);
        for (int s = 0; s < 3; s++) {
            dueCouldPick(d, 0, s, true);
            dueCouldPick(d, 1, s, true);
        }
        dueBook(d, 1, 0, 8, 8, 2);
        for (int s = 0; s < 3; s++) {
            dueCouldPick(d, 0, s, s != 0);
            dueCouldPick(d, 1, s, s != 0);
            dueCouldPick(d, 2, s, s == 0);
        }
    }

    private static void couldReturnInSetAlone() {
        sentence("13: some good plan brings it back to s, so only to a station of its set");
        for (int set = 1; set <= 15; set++) {
            FleetDesk d = deskWithEverywhere(5, 1);
            dueBook(d, 1, 3, set, 4, 0);
            for (int s = 0; s < 4; s++) {
                dueCouldReturn(d, 0, s, (set >> s & 1) == 1);
            }
        }
    }

    private static void couldReturnWhatOthersNeed() {
        sentence("13: some good plan brings it back to s, so only where the others do not lack it elsewhere");
        for (int needed = 0; needed < 4; needed++) {
            FleetDesk d = new FleetDesk(5, 1, 0, 0);
            dueBook(d, 1, 0, 15, 1, 0);
            dueBook(d, 1 << needed, 7, 15, 8, 1);
            for (int s = 0; s < 4; s++) {
                dueCouldReturn(d, 0, s, s == needed);
                dueCouldReturn(d, 1, s, true);
            }
        }
    }

    private static void couldReturnOutsideTheFirstPlan() {
        sentence("13: some good plan, not the first alone");
        FleetDesk d = new FleetDesk(5, 2, 0, 0);
        dueBook(d, 1, 0, 6, 1, 0);
        dueBook(d, 1, 0, 6, 1, 1);
        dueBook(d, 2, 1, 1, 2, 2);
        for (int id = 0; id < 2; id++) {
            dueCouldReturn(d, id, 1, true);
            dueCouldReturn(d, id, 2, true);
        }
        dueBook(d, 2, 1, 1, 2, 3);
        for (int id = 0; id < 2; id++) {
            dueCouldReturn(d, id, 1, true);
            dueCouldReturn(d, id, 2, false);
        }
    }

    private static void couldReturnAtTheVeryTime() {
        sentence("13: some good plan, in which what comes back at a time goes out again at it");
        for (int t = 0; t <= 7; t++) {
            FleetDesk d = new FleetDesk(5, 1, 1, 0);
            dueBook(d, 1, 0, 12, 4, 0);
            dueBook(d, 6, t, 1, 8, 1);
            dueCouldReturn(d, 0, 3, true);
            dueSetStock(d, 1, 0, t >= 4 ? 0 : REFUSED);
            dueCouldReturn(d, 0, 3, t < 4);
        }
    }

    private static void questionsChangeNothing() {
        sentence("6 to 13: a question changes nothing");
        FleetDesk d = tightDesk();
        String before = look(d);
        int[] some = {Integer.MIN_VALUE, -1, 0, 2, 3, 8, 9, Integer.MAX_VALUE};
        for (int a : some) {
            d.stock(a);
            d.pickupOf(a);
            d.returnOf(a);
            d.couldPick(a, 3);
            d.couldReturn(0, a);
            d.spare(2, a);
            d.shortage(12, a, 9);
        }
        same("afterwards", look(d), before);
        dueBook(d, 2, 0, 4, 5, 1);
        dueCancel(d, 0, 0);
    }
}
