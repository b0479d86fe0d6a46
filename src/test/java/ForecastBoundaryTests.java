/**
 * The boundary cases of the promises 21 to 23, "forecasts, which change nothing".
 * Each test's name tells its sentence.
 */
public final class ForecastBoundaryTests {
    private static final Check CHECK = new Check("ForecastBoundaryTests");

    public static void main(String[] args) {
        forecastArguments();
        forecastOfEachCause();
        forecastOfAnEmptyHub();
        forecastBeyondTheEndOfTime();
        outagesInAForecast();
        forecastsChangeNothing();
        capacityArguments();
        capacityOfAnEmptyHub();
        capacityOfThirty();
        noCapacity();
        entriesInTheStoreBefore();
        storeThatIsFullInTheForecast();
        noWakeBeforeAForecast();
        fullStoreAtTheLastTick();
        smallerThanThePresentCapacity();
        deadlinesEmptyTheStore();
        tightestArguments();
        noClient();
        noClientMakesItSmaller();
        delayOf400AtMost();
        smallestOfSeveral();
        fewestOfAll();
        lastClient();
        wakesOfAllCauses();
        entriesInTheStoreToo();
        tightestBeyondTheEndOfTime();
        CHECK.finish();
    }

    private static void due(String call, int got, int want) {
        CHECK.due(call, got, want);
    }

    private static void forecastArguments() {
        CHECK.test("promise 21: \"ticks: 1 to 500\", \"cause: 0 deadline, 1 full\"");
        SensorHub x = Hubs.clockFor(0);
        due("ticks 0", x.forecastWakes(0, 0), Hubs.INVALID);
        due("ticks -1", x.forecastWakes(-1, 0), Hubs.INVALID);
        due("ticks 501", x.forecastWakes(501, 0), Hubs.INVALID);
        due("cause -1", x.forecastWakes(1, -1), Hubs.INVALID);
        due("cause 2", x.forecastWakes(1, 2), Hubs.INVALID);
        due("cause 3", x.forecastWakes(1, 3), Hubs.INVALID);
        due("ticks 1", x.forecastWakes(1, 0), 1);
        due("ticks 500", x.forecastWakes(500, 0), 500);
        due("cause 1", x.forecastWakes(500, 1), 0);
    }

    private static void forecastOfEachCause() {
        CHECK.test("promise 21: \"the number of wakes with this cause .. in the next ticks\": none from before");
        SensorHub x = Hubs.clock();
        x.subscribe(0, 1, 400);
        x.subscribe(0, 7, 2);
        x.setCapacity(4);
        // Deadlines at 3, 10, 17, .., 45; full at 8, 15, .., 43.
        x.advance(12);
        due("deadlines so far", x.wakes(0), 2);
        due("full so far", x.wakes(1), 1);
        due("deadlines until 46", x.forecastWakes(34, 0), 5);
        due("full until 46", x.forecastWakes(34, 1), 5);
        due("deadlines until 16", x.forecastWakes(4, 0), 0);
        due("full until 16", x.forecastWakes(4, 1), 1);
        due("advance to 46", x.advance(34), 10);
        due("deadlines", x.wakes(0), 7);
        due("full", x.wakes(1), 6);
        SensorHub y = Hubs.clockFor(400);
        y.setCapacity(1);
        y.advance(5);
        due("full so far", y.wakes(1), 4);
        due("in the next three", y.forecastWakes(3, 1), 3);
        due("change and flush do not count", y.flush(), 1);
        due("in the next one", y.forecastWakes(1, 1), 0);
    }

    private static void forecastOfAnEmptyHub() {
        CHECK.test("promise 21: no wake in a hub without sensors, without clients, or before the first sample");
        SensorHub x = new SensorHub();
        due("without sensors", x.forecastWakes(500, 0), 0);
        x.addSensor(20, 1, 0, 0, 0, 1);
        due("without clients", x.forecastWakes(500, 1), 0);
        x.subscribe(0, 20, 0);
        due("before the first sample", x.forecastWakes(19, 0), 0);
        due("with the first sample", x.forecastWakes(20, 0), 1);
    }

    private static void forecastBeyondTheEndOfTime() {
        CHECK.test("promise 21: \"(now can become greater than 9999 in a forecast)\"");
        SensorHub x = Hubs.clockFor(0);
        Hubs.advanceTo(x, 9999);
        due("no more ticks", x.advance(1), Hubs.NO_ROOM);
        due("one tick of a forecast", x.forecastWakes(1, 0), 1);
        due("all of a forecast", x.forecastWakes(500, 0), 500);
        due("capacity", x.smallestCapacity(500), 1);
        due("now", x.count(0), 9999);
    }

    private static void outagesInAForecast() {
        CHECK.test("promise 21: missing samples are entries of a forecast, too, in an outage and behind 9999");
        SensorHub x = Hubs.of("sensor 1 1 1 0 0 1;outage 0 0 9999;");
        x.subscribe(0, 1, 0);
        due("in an outage", x.forecastWakes(10, 0), 10);
        Hubs.advanceTo(x, 9995);
        due("through the end of the outage", x.forecastWakes(10, 0), 10);
    }

    private static void forecastsChangeNothing() {
        CHECK.test("promises 21 to 23: \"forecasts, which change nothing\"");
        String text = "sensor 2 2 7 1 1 3;sensor 3 2 13 500 2 2;mean 0 3;diff 0 1;outage 0 12 20;";
        SensorHub x = Hubs.of(text);
        SensorHub twin = Hubs.of(text);
        for (SensorHub one : new SensorHub[] {x, twin}) {
            one.subscribe(2, 5, 9);
            one.subscribe(3, 11, 30);
            one.advance(31);
        }
        x.forecastWakes(100, 0);
        x.forecastWakes(3, 1);
        x.smallestCapacity(77);
        x.tightestClient(200);
        CHECK.isTrue("all is as if there had been no forecast", Looks.at(x).equals(Looks.at(twin)));
        due("advance", x.advance(23), twin.advance(23));
        CHECK.isTrue("also later", Looks.at(x).equals(Looks.at(twin)));
        due("undo", x.undo(), 4);
        due("undo", x.undo(), 3);
        due("now", x.count(0), 0);
    }

    private static void capacityArguments() {
        CHECK.test("promise 22: \"ticks: 1 to 500\"");
        SensorHub x = Hubs.clockFor(400);
        due("0", x.smallestCapacity(0), Hubs.INVALID);
        due("-1", x.smallestCapacity(-1), Hubs.INVALID);
        due("501", x.smallestCapacity(501), Hubs.INVALID);
        due("1", x.smallestCapacity(1), 1);
        due("2", x.smallestCapacity(2), 2);
        due("500", x.smallestCapacity(500), Hubs.NONE);
    }

    private static void capacityOfAnEmptyHub() {
        CHECK.test("promise 22: \"Returns the capacity, 1 to 30\": 1 if nothing is stored");
        SensorHub x = new SensorHub();
        due("without sensors", x.smallestCapacity(500), 1);
        x.addSensor(20, 1, 0, 0, 0, 1);
        due("without clients", x.smallestCapacity(500), 1);
        x.subscribe(0, 20, 400);
        due("before the first sample", x.smallestCapacity(19), 1);
        due("with one entry", x.smallestCapacity(39), 1);
        due("with two entries", x.smallestCapacity(40), 2);
    }

    private static void capacityOfThirty() {
        CHECK.test("promise 22: \"Returns the capacity, 1 to 30\": 30");
        SensorHub x = Hubs.clockFor(400);
        due("29 entries", x.smallestCapacity(29), 29);
        due("30 entries", x.smallestCapacity(30), 30);
        due("31 entries", x.smallestCapacity(31), Hubs.NONE);
    }

    private static void noCapacity() {
        CHECK.test("promise 22: \"NONE if there is none\"");
        SensorHub x = Hubs.clockFor(29);
        due("thirty entries at each deadline", x.smallestCapacity(500), 30);
        x.unsubscribe(0);
        x.subscribe(0, 1, 30);
        due("31 entries at each deadline", x.smallestCapacity(500), Hubs.NONE);
        due("one tick before the 31st", x.smallestCapacity(30), 30);
        due("with the 31st, due in its tick", x.smallestCapacity(31), Hubs.NONE);
    }

    private static void entriesInTheStoreBefore() {
        CHECK.test("promise 22: \"without a wake before\": the entries of the store stay");
        SensorHub x = Hubs.clockFor(400);
        x.advance(9);
        due("nine and one", x.smallestCapacity(1), 10);
        due("nine and two", x.smallestCapacity(2), 11);
        due("nine and 21", x.smallestCapacity(21), 30);
        due("nine and 22", x.smallestCapacity(22), Hubs.NONE);
        due("change", x.wakes(2), 0);
    }

    private static void storeThatIsFullInTheForecast() {
        CHECK.test("promise 22: \"a store that has at least as many entries as its capacity is full\"");
        SensorHub x = Hubs.clock();
        x.subscribe(0, 100, 400);
        x.subscribe(0, 100, 400);
        x.subscribe(0, 100, 400);
        x.advance(1);
        due("entries", x.count(4), 3);
        due("no further entry: no wake for full", x.smallestCapacity(99), 1);
        due("three further ones", x.smallestCapacity(100), 6);
        x.unsubscribe(2);
        x.unsubscribe(1);
        x.advance(100);
        due("entries", x.count(4), 1);
        due("one and one, of all capacities less", x.smallestCapacity(100), 2);
    }

    private static void noWakeBeforeAForecast() {
        CHECK.test("promise 22: \"the capacity is just another one, without a wake before\": a store at its deadline");
        SensorHub x = Hubs.clockFor(9);
        x.advance(5);
        // The entries of 1 to 10 are delivered at 10: ten in the store, and then nothing more than that.
        due("until the deadline", x.smallestCapacity(5), 10);
        due("beyond it", x.smallestCapacity(500), 10);
        x.setCapacity(10);
        // Now those of 6 to 15.
        due("one less than before", x.smallestCapacity(9), 9);
    }

    private static void fullStoreAtTheLastTick() {
        CHECK.test("promise 22: \"in the next ticks\": the last one of them, and not the one after it");
        SensorHub x = Hubs.clock();
        x.subscribe(0, 10, 400);
        due("until 20", x.smallestCapacity(20), 2);
        due("until 21", x.smallestCapacity(21), 3);
        x.advance(20);
        due("until 21", x.smallestCapacity(1), 3);
    }

    private static void smallerThanThePresentCapacity() {
        CHECK.test("promise 22: \"the capacity is just another one\": the present one does not matter");
        for (int capacity = 1; capacity <= 30; capacity++) {
            SensorHub x = Hubs.clockFor(6);
            x.setCapacity(capacity);
            due("with the capacity " + capacity, x.smallestCapacity(500), 7);
            due("it stays", x.count(5), capacity);
        }
    }

    private static void deadlinesEmptyTheStore() {
        CHECK.test("promise 22: \"no wake .. would have the cause full\": those with the cause deadline may be");
        SensorHub x = Hubs.clockFor(0);
        due("one entry at a time", x.smallestCapacity(500), 1);
        for (int client = 1; client < 8; client++) {
            x.subscribe(0, 1, 0);
            due("entries of a tick", x.smallestCapacity(500), client + 1);
        }
    }

    private static void tightestArguments() {
        CHECK.test("promise 23: \"ticks: 1 to 500\"");
        SensorHub x = Hubs.clockFor(0);
        due("0", x.tightestClient(0), Hubs.INVALID);
        due("-1", x.tightestClient(-1), Hubs.INVALID);
        due("501", x.tightestClient(501), Hubs.INVALID);
        due("1", x.tightestClient(1), 0);
        due("500", x.tightestClient(500), 0);
        due("0 in a new hub", new SensorHub().tightestClient(0), Hubs.INVALID);
    }

    private static void noClient() {
        CHECK.test("promise 23: \"NONE if there is no client\"");
        SensorHub x = new SensorHub();
        due("without sensors", x.tightestClient(500), Hubs.NONE);
        x.addSensor(1, 1, 0, 0, 0, 1);
        due("without clients", x.tightestClient(500), Hubs.NONE);
        x.subscribe(0, 1, 0);
        x.unsubscribe(0);
        due("after the last one went", x.tightestClient(500), Hubs.NONE);
    }

    private static void noClientMakesItSmaller() {
        CHECK.test("promise 23: \"NONE if .. no client makes the number of wakes smaller than it would be without\"");
        SensorHub x = Hubs.clock();
        x.subscribe(0, 50, 0);
        x.subscribe(0, 50, 0);
        due("two that wake together", x.tightestClient(500), Hubs.NONE);
        SensorHub y = Hubs.of("sensor 20 1 0 0 0 1;");
        y.subscribe(0, 20, 0);
        due("no wake at all", y.tightestClient(19), Hubs.NONE);
        due("one wake", y.tightestClient(20), 0);
    }

    private static void delayOf400AtMost() {
        CHECK.test("promise 23: \"if only its D was 400\": not more than 400");
        SensorHub x = Hubs.clock();
        x.subscribe(0, 400, 400);
        due("one with the greatest delay", x.tightestClient(500), Hubs.NONE);
        SensorHub y = Hubs.clock();
        y.subscribe(0, 400, 399);
        // The entry of 1 is due at 400; with the delay 400 at 401, together with that of 401.
        due("until 400", y.tightestClient(400), 0);
        due("until 401", y.tightestClient(401), Hubs.NONE);
    }

    private static void smallestOfSeveral() {
        CHECK.test("promise 23: \"of several the smallest one\"");
        // The client 1 has entries of 1 and 401, the client 2 of 5 and 405, each due at once.
        SensorHub x = Hubs.clock();
        x.subscribe(0, 400, 400);
        x.subscribe(0, 400, 0);
        x.advance(4);
        x.subscribe(0, 400, 0);
        x.advance(1);
        due("deadlines so far", x.wakes(0), 2);
        due("until 401", x.forecastWakes(396, 0), 1);
        due("until 405", x.forecastWakes(400, 0), 2);
        due("one wake less by either", x.tightestClient(400), 1);
        due("the first one's only", x.tightestClient(396), 1);
    }

    private static void fewestOfAll() {
        CHECK.test("promise 23: \"there would be the fewest wakes\": a greater client that saves more");
        SensorHub x = Hubs.clock();
        x.setCapacity(30);
        x.subscribe(0, 100, 10);
        x.subscribe(0, 100, 400);
        x.subscribe(0, 25, 10);
        x.subscribe(0, 400, 0);
        due("the one that wakes most often", x.tightestClient(400), 2);
        due("within one tick, the one of 0", x.tightestClient(1), 3);
    }

    private static void lastClient() {
        CHECK.test("promise 23: \"Returns the number of the client\": the last one, behind free numbers");
        SensorHub x = Hubs.clock();
        for (int client = 0; client < 8; client++) {
            x.subscribe(0, 50, client == 7 ? 3 : 400);
        }
        due("the client 7", x.tightestClient(100), 7);
        for (int client = 1; client < 7; client++) {
            x.unsubscribe(client);
        }
        due("the client 7, behind free numbers", x.tightestClient(100), 7);
    }

    private static void wakesOfAllCauses() {
        CHECK.test("promise 23: \"the fewest wakes of all causes\": full ones count as well");
        SensorHub x = Hubs.clockFor(1);
        x.setCapacity(2);
        // Deadlines at 2, 4, ..; with the delay 400 the store is full at 3, 5, ..
        due("until 2", x.tightestClient(2), 0);
        due("until 3: one for full in place of one", x.tightestClient(3), Hubs.NONE);
        due("until 4", x.tightestClient(4), 0);
        due("until 5", x.tightestClient(5), Hubs.NONE);
    }

    private static void entriesInTheStoreToo() {
        CHECK.test("promise 23: \"if only its D was 400\": also for the entries that are in the store");
        SensorHub x = Hubs.clock();
        x.subscribe(0, 400, 5);
        x.advance(3);
        due("its only entry is due at 6", x.tightestClient(3), 0);
        due("until 5", x.tightestClient(2), Hubs.NONE);
    }

    private static void tightestBeyondTheEndOfTime() {
        CHECK.test("promise 23: the next ticks can go beyond 9999");
        SensorHub x = Hubs.clockFor(0);
        Hubs.advanceTo(x, 9999);
        due("beyond the end", x.tightestClient(500), 0);
        due("now", x.count(0), 9999);
    }
}
