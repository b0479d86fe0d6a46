/**
 * The section "Errors": each call that returns an error code is made on one of
 * two hubs that are alike; afterwards, and when time has passed, both are still
 * alike. And of several error conditions the first one is told.
 */
public final class RefusalTests {
    private static final Check CHECK = new Check("RefusalTests");

    /** A call that one of the two hubs gets. */
    private interface Call {
        int on(SensorHub x);
    }

    /** How one of the two hubs is made. */
    private interface Maker {
        SensorHub make();
    }

    public static void main(String[] args) {
        CHECK.test("Errors: \"A call that returns an error code changes nothing\": promise 2");
        refusedAddSensor();
        CHECK.test("Errors: \"A call that returns an error code changes nothing\": promise 3");
        refusedAddDerived();
        CHECK.test("Errors: \"A call that returns an error code changes nothing\": promise 4");
        refusedAddOutage();
        CHECK.test("Errors: \"A call that returns an error code changes nothing\": promise 5");
        refusedSubscribe();
        CHECK.test("Errors: \"A call that returns an error code changes nothing\": promises 6 and 7");
        refusedUnsubscribeAndSetCapacity();
        CHECK.test("Errors: \"A call that returns an error code changes nothing\": promises 8 and 10");
        refusedTexts();
        CHECK.test("Errors: \"A call that returns an error code changes nothing\": promises 11 to 13");
        refusedTime();
        CHECK.test("Errors: \"A call that returns an error code changes nothing\": promises 14 to 20");
        refusedLooks();
        CHECK.test("Errors: \"A call that returns an error code changes nothing\": promises 21 to 23");
        refusedForecasts();
        firstConditions();
        noErrorCodes();
        extremeArguments();
        CHECK.finish();
    }

    private static void due(String call, int got, int want) {
        CHECK.due(call, got, want);
    }

    /** Sensors, clients, entries, deliveries, an outage, five states in the history and the begin of an item. */
    private static SensorHub busy() {
        SensorHub x = Hubs.of("sensor 2 2 7 1 1 3;sensor 3 2 13 500 2 2;mean 0 3;diff 0 1;outage 0 12 20;");
        x.subscribe(2, 5, 9);
        x.subscribe(3, 11, 30);
        x.advance(16);
        x.setCapacity(9);
        x.advance(7);
        Hubs.write(x, "sensor 4 1 1 1 1");
        return x;
    }

    /** Eight sensors, eight clients and four outages, with a full store. */
    private static SensorHub full() {
        SensorHub x = Hubs.of("sensor2 1 1 0 0 1;mean0 2;mean1 2;mean2 2;mean0 2;mean4 2;mean0 3;mean0 4;");
        for (int outage = 0; outage < 4; outage++) {
            x.addOutage(0, 9 * outage, 9 * outage);
        }
        for (int client = 0; client < 8; client++) {
            x.subscribe(client, 2 + client, 400);
        }
        x.setCapacity(8);
        x.advance(2);
        return x;
    }

    private static SensorHub late() {
        SensorHub x = Hubs.of("sensor 5 1 1 0 0 1;");
        x.subscribe(0, 40, 100);
        Hubs.advanceTo(x, 9990);
        return x;
    }

    private static void refused(String name, Maker maker, int code, Call call) {
        SensorHub x = maker.make();
        SensorHub twin = maker.make();
        due(name, call.on(x), code);
        due("states after " + name, x.count(8), twin.count(8));
        due("text after " + name, x.count(9), twin.count(9));
        CHECK.isTrue("all is as before " + name, Looks.at(x).equals(Looks.at(twin)));
        due("advance after " + name, x.advance(9), twin.advance(9));
        for (int what = 0; what <= 9; what++) {
            due("count(" + what + ") later, after " + name, x.count(what), twin.count(what));
        }
        for (int number = 0; number < 8; number++) {
            due("value of " + number + " later, after " + name, x.sensor(number, 5), twin.sensor(number, 5));
            due("delivered to " + number + " later, after " + name, x.client(number, 5), twin.client(number, 5));
        }
        due("load after " + name, loadOfTheRest(x), loadOfTheRest(twin));
        while (twin.count(8) > 0) {
            due("undo after " + name, x.undo(), twin.undo());
            due("now, undone after " + name, x.count(0), twin.count(0));
            due("energy, undone after " + name, x.count(6), twin.count(6));
            due("clients, undone after " + name, x.count(2), twin.count(2));
        }
        due("states, undone after " + name, x.count(8), 0);
    }

    /** Ends the item that the text of a busy hub begins. */
    private static int loadOfTheRest(SensorHub x) {
        Hubs.write(x, " 7;");
        return x.load();
    }

    private static void refusedAddSensor() {
        refused("q", RefusalTests::busy, Hubs.INVALID, x -> x.addSensor(21, 1, 0, 0, 0, 1));
        refused("steps", RefusalTests::busy, Hubs.INVALID, x -> x.addSensor(5, 6, 0, 0, 0, 1));
        refused("slope", RefusalTests::busy, Hubs.INVALID, x -> x.addSensor(5, 1, -1, 0, 0, 1));
        refused("offset", RefusalTests::busy, Hubs.INVALID, x -> x.addSensor(5, 1, 0, 1000, 0, 1));
        refused("jitter", RefusalTests::busy, Hubs.INVALID, x -> x.addSensor(5, 1, 0, 0, 5, 1));
        refused("cost", RefusalTests::busy, Hubs.INVALID, x -> x.addSensor(5, 1, 0, 0, 0, 0));
        refused("a ninth", RefusalTests::full, Hubs.NO_ROOM, x -> x.addSensor(5, 1, 0, 0, 0, 1));
    }

    private static void refusedAddDerived() {
        refused("kind", RefusalTests::busy, Hubs.INVALID, x -> x.addDerived(4, 0, 0));
        refused("first", RefusalTests::busy, Hubs.INVALID, x -> x.addDerived(0, 4, 0));
        refused("second", RefusalTests::busy, Hubs.INVALID, x -> x.addDerived(0, 0, 4));
        refused("length", RefusalTests::busy, Hubs.INVALID, x -> x.addDerived(3, 0, 9));
        refused("a ninth", RefusalTests::full, Hubs.NO_ROOM, x -> x.addDerived(0, 0, 0));
    }

    private static void refusedAddOutage() {
        refused("a derived sensor", RefusalTests::busy, Hubs.INVALID, x -> x.addOutage(2, 0, 9999));
        refused("first", RefusalTests::busy, Hubs.INVALID, x -> x.addOutage(0, -1, 9999));
        refused("last", RefusalTests::busy, Hubs.INVALID, x -> x.addOutage(0, 0, 10000));
        refused("last before first", RefusalTests::busy, Hubs.INVALID, x -> x.addOutage(1, 30, 29));
        refused("a fifth", RefusalTests::full, Hubs.NO_ROOM, x -> x.addOutage(0, 0, 9999));
    }

    private static void refusedSubscribe() {
        refused("sensor", RefusalTests::busy, Hubs.INVALID, x -> x.subscribe(4, 5, 5));
        refused("period", RefusalTests::busy, Hubs.INVALID, x -> x.subscribe(0, 401, 5));
        refused("delay", RefusalTests::busy, Hubs.INVALID, x -> x.subscribe(0, 5, 401));
        refused("too fast", RefusalTests::busy, Hubs.ILLEGAL, x -> x.subscribe(3, 2, 5));
        refused("too fast, and a ninth", RefusalTests::full, Hubs.ILLEGAL, x -> x.subscribe(7, 1, 5));
        refused("a ninth", RefusalTests::full, Hubs.NO_ROOM, x -> x.subscribe(7, 2, 5));
    }

    private static void refusedUnsubscribeAndSetCapacity() {
        refused("no such client", RefusalTests::busy, Hubs.INVALID, x -> x.unsubscribe(2));
        refused("client -1", RefusalTests::busy, Hubs.INVALID, x -> x.unsubscribe(-1));
        refused("client 8", RefusalTests::full, Hubs.INVALID, x -> x.unsubscribe(8));
        refused("capacity 0", RefusalTests::busy, Hubs.INVALID, x -> x.setCapacity(0));
        refused("capacity 31", RefusalTests::full, Hubs.INVALID, x -> x.setCapacity(31));
    }

    private static void refusedTexts() {
        refused("character 0", RefusalTests::busy, Hubs.INVALID, x -> x.append(0));
        refused("character 256", RefusalTests::busy, Hubs.INVALID, x -> x.append(256));
        refused("load of a part of an item", RefusalTests::busy, -10 - 16, SensorHub::load);
        SensorHub y = new SensorHub();
        Hubs.write(y, " ".repeat(141) + "sensor 1 1 0 0 0 1;");
        due("a 161st character", y.append('x'), Hubs.NO_ROOM);
        due("length", y.count(9), 160);
        due("load", y.load(), 1);
    }

    private static void refusedTime() {
        refused("no tick", RefusalTests::busy, Hubs.INVALID, x -> x.advance(0));
        refused("501 ticks", RefusalTests::busy, Hubs.INVALID, x -> x.advance(501));
        refused("ticks to 10000", RefusalTests::late, Hubs.NO_ROOM, x -> x.advance(10));
        refused("flush of an empty store", Hubs::clock, Hubs.ILLEGAL, SensorHub::flush);
        refused("undo without a state", SensorHub::new, Hubs.ILLEGAL, SensorHub::undo);
    }

    private static void refusedLooks() {
        refused("count", RefusalTests::busy, Hubs.INVALID, x -> x.count(10));
        refused("wakes", RefusalTests::busy, Hubs.INVALID, x -> x.wakes(4));
        refused("sensor", RefusalTests::busy, Hubs.INVALID, x -> x.sensor(4, 0));
        refused("client", RefusalTests::busy, Hubs.INVALID, x -> x.client(2, 0));
        refused("entry", RefusalTests::busy, Hubs.INVALID, x -> x.entry(-1, 0));
        refused("delivered", RefusalTests::busy, Hubs.INVALID, x -> x.delivered(0, 6, 0));
    }

    private static void refusedForecasts() {
        refused("ticks of forecastWakes", RefusalTests::busy, Hubs.INVALID, x -> x.forecastWakes(501, 0));
        refused("cause of forecastWakes", RefusalTests::busy, Hubs.INVALID, x -> x.forecastWakes(10, 2));
        refused("ticks of smallestCapacity", RefusalTests::busy, Hubs.INVALID, x -> x.smallestCapacity(0));
        refused("ticks of tightestClient", RefusalTests::busy, Hubs.INVALID, x -> x.tightestClient(501));
    }

    private static void firstConditions() {
        CHECK.test("Errors: \"the method returns the one that its description lists first\"");
        SensorHub x = full();
        due("a wrong ninth sensor", x.addSensor(0, 1, 0, 0, 0, 1), Hubs.INVALID);
        due("a wrong ninth kind", x.addDerived(4, 0, 0), Hubs.INVALID);
        due("a ninth of the input 8", x.addDerived(3, 8, 1), Hubs.INVALID);
        due("a ninth of the length 0", x.addDerived(3, 0, 0), Hubs.INVALID);
        due("a fifth outage of a derived sensor", x.addOutage(1, 0, 0), Hubs.INVALID);
        due("a fifth outage to 10000", x.addOutage(0, 0, 10000), Hubs.INVALID);
        due("a ninth client of no sensor, too fast", x.subscribe(8, 1, 0), Hubs.INVALID);
        due("a ninth client, too fast", x.subscribe(0, 1, 0), Hubs.ILLEGAL);
        due("a ninth client", x.subscribe(0, 2, 0), Hubs.NO_ROOM);
        SensorHub y = late();
        due("too many ticks", y.advance(501), Hubs.INVALID);
        due("beyond the end", y.advance(500), Hubs.NO_ROOM);
    }

    private static void noErrorCodes() {
        CHECK.test("Errors: \"NONE and MISSING are no errors, .. returned only if no error condition applies\"");
        SensorHub x = Hubs.of("sensor 1 1 0 0 0 1;outage 0 0 9999;");
        due("demand, NONE", x.sensor(0, 1), Hubs.NONE);
        due("demand of no sensor", x.sensor(1, 1), Hubs.INVALID);
        x.subscribe(0, 1, 400);
        due("greatest age, NONE", x.client(0, 7), Hubs.NONE);
        due("greatest age of no client", x.client(1, 7), Hubs.INVALID);
        due("delivered, NONE", x.delivered(0, 0, 1), Hubs.NONE);
        due("delivered of no client", x.delivered(1, 0, 1), Hubs.INVALID);
        due("delivered, part 3", x.delivered(0, 0, 3), Hubs.INVALID);
        due("entry, NONE", x.entry(0, 2), Hubs.NONE);
        due("entry, part 3", x.entry(0, 3), Hubs.INVALID);
        due("tightest client, NONE", x.tightestClient(500), Hubs.NONE);
        due("tightest client, ticks 0", x.tightestClient(0), Hubs.INVALID);
        x.advance(1);
        due("value, MISSING", x.sensor(0, 5), Hubs.MISSING);
        due("value of no sensor", x.sensor(1, 5), Hubs.INVALID);
        due("entry, MISSING", x.entry(0, 2), Hubs.MISSING);
        due("entry, index -1", x.entry(-1, 2), Hubs.INVALID);
        x.flush();
        due("delivered, MISSING", x.delivered(0, 0, 1), Hubs.MISSING);
        due("delivered, index 6", x.delivered(0, 6, 1), Hubs.INVALID);
    }

    private static void extremeArguments() {
        CHECK.test("Errors: \"An argument is out of range\": the least and the greatest numbers that there are");
        for (int e : new int[] {Integer.MIN_VALUE, Integer.MIN_VALUE + 1, Integer.MAX_VALUE - 1, Integer.MAX_VALUE}) {
            SensorHub x = Hubs.clockFor(400);
            x.advance(2);
            due("q", x.addSensor(e, 1, 0, 0, 0, 1), Hubs.INVALID);
            due("steps", x.addSensor(5, e, 0, 0, 0, 1), Hubs.INVALID);
            due("slope", x.addSensor(5, 1, e, 0, 0, 1), Hubs.INVALID);
            due("offset", x.addSensor(5, 1, 0, e, 0, 1), Hubs.INVALID);
            due("jitter", x.addSensor(5, 1, 0, 0, e, 1), Hubs.INVALID);
            due("cost", x.addSensor(5, 1, 0, 0, 0, e), Hubs.INVALID);
            due("q and jitter", x.addSensor(e, 1, 0, 0, e, 1), Hubs.INVALID);
            due("kind", x.addDerived(e, 0, 0), Hubs.INVALID);
            due("first", x.addDerived(0, e, 0), Hubs.INVALID);
            due("second", x.addDerived(0, 0, e), Hubs.INVALID);
            due("length", x.addDerived(3, 0, e), Hubs.INVALID);
            due("sensor of an outage", x.addOutage(e, 0, 0), Hubs.INVALID);
            due("first of an outage", x.addOutage(0, e, 9999), Hubs.INVALID);
            due("last of an outage", x.addOutage(0, 0, e), Hubs.INVALID);
            due("sensor", x.subscribe(e, 1, 0), Hubs.INVALID);
            due("period", x.subscribe(0, e, 0), Hubs.INVALID);
            due("delay", x.subscribe(0, 1, e), Hubs.INVALID);
            due("client", x.unsubscribe(e), Hubs.INVALID);
            due("capacity", x.setCapacity(e), Hubs.INVALID);
            due("character", x.append(e), Hubs.INVALID);
            due("ticks", x.advance(e), Hubs.INVALID);
            extremeLooks(x, e);
            due("states", x.count(8), 3);
        }
    }

    private static void extremeLooks(SensorHub x, int e) {
        due("count", x.count(e), Hubs.INVALID);
        due("wakes", x.wakes(e), Hubs.INVALID);
        due("sensor", x.sensor(e, 0), Hubs.INVALID);
        due("what of a sensor", x.sensor(0, e), Hubs.INVALID);
        due("client", x.client(e, 0), Hubs.INVALID);
        due("what of a client", x.client(0, e), Hubs.INVALID);
        due("index", x.entry(e, 0), e < 0 ? Hubs.INVALID : Hubs.NONE);
        due("part", x.entry(0, e), Hubs.INVALID);
        due("client of delivered", x.delivered(e, 0, 0), Hubs.INVALID);
        due("index of delivered", x.delivered(0, e, 0), Hubs.INVALID);
        due("part of delivered", x.delivered(0, 0, e), Hubs.INVALID);
        due("ticks of a forecast", x.forecastWakes(e, 0), Hubs.INVALID);
        due("cause of a forecast", x.forecastWakes(1, e), Hubs.INVALID);
        due("ticks of smallestCapacity", x.smallestCapacity(e), Hubs.INVALID);
        due("ticks of tightestClient", x.tightestClient(e), Hubs.INVALID);
    }
}
