/**
 * The boundary cases of the section "Undo" and of the promise 13. Each test's
 * name tells where its sentence stands, and the sentence.
 */
public final class HistoryBoundaryTests {
    private static final String TEXT = "sensor 2 2 7 1 1 3;sensor 3 2 13 500 2 2;mean 0 3;diff 0 1;outage 0 12 20;";

    private static final Check CHECK = new Check("HistoryBoundaryTests");

    public static void main(String[] args) {
        emptyHistory();
        emptyAgain();
        fiveStates();
        sixthDropsTheOldest();
        manyStates();
        undoneAndRecordedAgain();
        latestFirst();
        textIsNoState();
        historyIsNoState();
        eachActionIsRecorded();
        refusedActionsAreNotRecorded();
        whatIsNoAction();
        everythingIsRestored();
        restoredAfterARestart();
        numberOfAnotherClient();
        fullStoreIsRestored();
        wakesAreUndone();
        loadIsUndone();
        goesOnAsBefore();
        undoneTwice();
        CHECK.finish();
    }

    private static void due(String call, int got, int want) {
        CHECK.due(call, got, want);
    }

    private static void emptyHistory() {
        CHECK.test("promise 13: \"ILLEGAL_STATE if it is empty\"");
        SensorHub x = new SensorHub();
        due("at first", x.undo(), Hubs.ILLEGAL);
        due("states", x.count(8), 0);
        x.setCapacity(0);
        x.advance(0);
        x.flush();
        x.append('a');
        x.load();
        due("after refused calls", x.undo(), Hubs.ILLEGAL);
        due("text", x.count(9), 1);
    }

    private static void emptyAgain() {
        CHECK.test("promise 13: \"Returns the number of states that are left\": 0, and then ILLEGAL_STATE");
        SensorHub x = new SensorHub();
        x.setCapacity(4);
        x.setCapacity(5);
        due("states", x.count(8), 2);
        due("the latest", x.undo(), 1);
        due("capacity", x.count(5), 4);
        due("the first", x.undo(), 0);
        due("capacity", x.count(5), 10);
        due("empty", x.undo(), Hubs.ILLEGAL);
        due("capacity", x.count(5), 10);
        due("states", x.count(8), 0);
    }

    private static void fiveStates() {
        CHECK.test("Undo: \"A history of at most 5 states is kept\"");
        SensorHub x = new SensorHub();
        for (int capacity = 1; capacity <= 5; capacity++) {
            x.setCapacity(capacity);
            due("states", x.count(8), capacity);
        }
        for (int left = 4; left >= 0; left--) {
            due("undo", x.undo(), left);
            due("capacity", x.count(5), left == 0 ? 10 : left);
            due("states", x.count(8), left);
        }
        due("empty", x.undo(), Hubs.ILLEGAL);
    }

    private static void sixthDropsTheOldest() {
        CHECK.test("Undo: \"when a sixth one is recorded, the oldest one is dropped\"");
        SensorHub x = new SensorHub();
        for (int capacity = 1; capacity <= 6; capacity++) {
            x.setCapacity(capacity);
        }
        due("states", x.count(8), 5);
        for (int left = 4; left >= 0; left--) {
            due("undo", x.undo(), left);
            due("capacity", x.count(5), left + 1);
        }
        due("the state of the new hub was dropped", x.undo(), Hubs.ILLEGAL);
        due("capacity", x.count(5), 1);
    }

    private static void manyStates() {
        CHECK.test("Undo: \"the oldest one is dropped\": the latest five of thirty stay");
        SensorHub x = new SensorHub();
        for (int capacity = 1; capacity <= 30; capacity++) {
            x.setCapacity(capacity);
            due("states", x.count(8), Math.min(capacity, 5));
        }
        for (int left = 4; left >= 0; left--) {
            due("undo", x.undo(), left);
            due("capacity", x.count(5), 25 + left);
        }
        due("empty", x.undo(), Hubs.ILLEGAL);
    }

    private static void undoneAndRecordedAgain() {
        CHECK.test("Undo: states that were removed make room again, and the rest keeps its order");
        SensorHub x = new SensorHub();
        for (int capacity = 1; capacity <= 7; capacity++) {
            x.setCapacity(capacity);
        }
        due("undo", x.undo(), 4);
        due("undo", x.undo(), 3);
        due("undo", x.undo(), 2);
        due("capacity", x.count(5), 4);
        for (int capacity = 11; capacity <= 14; capacity++) {
            x.setCapacity(capacity);
        }
        due("states", x.count(8), 5);
        int[] capacities = {13, 12, 11, 4, 3};
        for (int i = 0; i < 5; i++) {
            due("undo", x.undo(), 4 - i);
            due("capacity", x.count(5), capacities[i]);
        }
        due("empty", x.undo(), Hubs.ILLEGAL);
    }

    private static void latestFirst() {
        CHECK.test("promise 13: \"Removes the latest state from the history and restores it\"");
        SensorHub x = Hubs.clock();
        x.addOutage(0, 1, 1);
        x.subscribe(0, 1, 400);
        x.advance(3);
        x.flush();
        due("flush undone", x.undo(), 4);
        due("entries", x.count(4), 3);
        due("now", x.count(0), 3);
        due("advance undone", x.undo(), 3);
        due("now", x.count(0), 0);
        due("clients", x.count(2), 1);
        due("subscribe undone", x.undo(), 2);
        due("clients", x.count(2), 0);
        due("outages", x.count(3), 1);
        due("addOutage undone", x.undo(), 1);
        due("outages", x.count(3), 0);
        due("sensors", x.count(1), 1);
        due("addSensor undone", x.undo(), 0);
        due("sensors", x.count(1), 0);
    }

    private static void textIsNoState() {
        CHECK.test("Undo: \"a state is everything but the text\"");
        SensorHub x = new SensorHub();
        Hubs.write(x, "sensor 1 1");
        x.setCapacity(3);
        Hubs.write(x, " 0 0 0 1;");
        due("undo", x.undo(), 0);
        due("length", x.count(9), 19);
        due("load", x.load(), 1);
        Hubs.write(x, "sum");
        due("undo of the load", x.undo(), 0);
        due("the text of now stays", x.count(9), 3);
        due("sensors", x.count(1), 0);
        due("it is that of now, the begin of an item", x.load(), -10 - 3);
        x.setCapacity(3);
        x.clearText();
        x.undo();
        due("a cleared text stays", x.count(9), 0);
    }

    private static void historyIsNoState() {
        CHECK.test("Undo: \"everything but .. the history\": dropped states do not come back");
        SensorHub x = new SensorHub();
        for (int capacity = 1; capacity <= 5; capacity++) {
            x.setCapacity(capacity);
        }
        x.setCapacity(6);
        due("states", x.count(8), 5);
        due("undo", x.undo(), 4);
        due("states", x.count(8), 4);
        x.load();
        due("a load keeps the history", x.count(8), 5);
        due("undo", x.undo(), 4);
        due("capacity", x.count(5), 5);
    }

    private static void eachActionIsRecorded() {
        CHECK.test("Undo: \"Every successful call of a method that is called an action records the state before it\"");
        for (int action = 0; action < 9; action++) {
            SensorHub x = Hubs.of(TEXT);
            x.subscribe(2, 5, 90);
            x.advance(9);
            String before = Looks.at(x);
            due("states", x.count(8), 3);
            int answer = act(x, action);
            CHECK.isTrue("the action " + action + " succeeds", answer >= 0);
            due("states after the action " + action, x.count(8), 4);
            CHECK.isTrue("the action " + action + " changes something", !Looks.at(x).equals(before));
            due("undo of the action " + action, x.undo(), 3);
            CHECK.isTrue("all is as before the action " + action, Looks.at(x).equals(before));
        }
    }

    private static int act(SensorHub x, int action) {
        switch (action) {
            case 0: return x.addSensor(5, 1, 1, 1, 1, 1);
            case 1: return x.addDerived(3, 1, 4);
            case 2: return x.addOutage(1, 10, 11);
            case 3: return x.subscribe(1, 6, 7);
            case 4: return x.unsubscribe(0);
            case 5: return x.setCapacity(10);
            case 6: return x.load();
            case 7: return x.advance(1);
            default: return x.flush();
        }
    }

    private static void refusedActionsAreNotRecorded() {
        CHECK.test("Undo: \"Every successful call\": a refused one records nothing");
        SensorHub x = new SensorHub();
        due("addSensor", x.addSensor(0, 1, 0, 0, 0, 1), Hubs.INVALID);
        due("addDerived", x.addDerived(0, 0, 0), Hubs.INVALID);
        due("addOutage", x.addOutage(0, 0, 0), Hubs.INVALID);
        due("subscribe", x.subscribe(0, 1, 0), Hubs.INVALID);
        due("unsubscribe", x.unsubscribe(0), Hubs.INVALID);
        due("setCapacity", x.setCapacity(31), Hubs.INVALID);
        x.append('?');
        due("load", x.load(), -10);
        due("advance", x.advance(501), Hubs.INVALID);
        due("flush", x.flush(), Hubs.ILLEGAL);
        due("undo", x.undo(), Hubs.ILLEGAL);
        due("states", x.count(8), 0);
    }

    private static void whatIsNoAction() {
        CHECK.test("Undo: \"a method that is called an action\": not append, clearText, undo, looks and forecasts");
        SensorHub x = Hubs.clockFor(5);
        due("states", x.count(8), 2);
        x.append('a');
        x.clearText();
        x.wakes(0);
        x.sensor(0, 0);
        x.client(0, 0);
        x.entry(0, 0);
        x.delivered(0, 0, 0);
        x.nextDeadline();
        x.forecastWakes(100, 0);
        x.smallestCapacity(100);
        x.tightestClient(100);
        due("states", x.count(8), 2);
        due("undo", x.undo(), 1);
        due("states", x.count(8), 1);
        due("clients", x.count(2), 0);
    }

    private static void everythingIsRestored() {
        CHECK.test("Undo: \"a state is everything\": sensors, samples, clients, outages, the store and the counts");
        SensorHub x = Hubs.of(TEXT);
        x.subscribe(2, 5, 9);
        x.advance(31);
        String before = Looks.at(x);
        x.setCapacity(3);
        x.subscribe(3, 11, 30);
        x.addOutage(1, 30, 90);
        x.advance(60);
        for (int i = 0; i < 4; i++) {
            x.undo();
        }
        CHECK.isTrue("all is as at 31", Looks.at(x).equals(before));
        due("states", x.count(8), 1);
    }

    private static void restoredAfterARestart() {
        CHECK.test("promise 13: samples that a restart forgot are back, and the next ones follow them");
        SensorHub x = Hubs.of("sensor 2 2 10 0 0 1;mean 0 3;");
        x.subscribe(1, 4, 400);
        x.advance(13);
        x.subscribe(0, 2, 400);
        due("restart", x.count(7), 13);
        x.advance(2);
        due("mean of 150", x.sensor(1, 5), 150);
        x.undo();
        x.undo();
        due("restart", x.count(7), 0);
        due("samples", x.sensor(1, 3), 3);
        due("period", x.sensor(0, 2), 4);
        x.advance(3);
        due("mean of 80, 120 and 160", x.sensor(1, 5), 120);
        due("stamp", x.sensor(1, 4), 16);
    }

    private static void numberOfAnotherClient() {
        CHECK.test("promise 13: a client is back whose number another one has got");
        SensorHub x = Hubs.of(TEXT);
        x.subscribe(2, 5, 9);
        x.advance(20);
        x.unsubscribe(0);
        String without = Looks.at(x);
        due("another one", x.subscribe(3, 17, 33), 0);
        x.advance(3);
        x.undo();
        x.undo();
        CHECK.isTrue("no client", Looks.at(x).equals(without));
        due("undo of unsubscribe", x.undo(), 2);
        int[] properties = {2, 5, 9, 1};
        for (int what = 0; what < properties.length; what++) {
            due("client(0, " + what + ")", x.client(0, what), properties[what]);
        }
    }

    private static void fullStoreIsRestored() {
        CHECK.test("promise 13: a store with thirty entries is back, each entry as it was");
        SensorHub x = Hubs.clockFor(400);
        x.setCapacity(30);
        x.advance(30);
        due("flush", x.flush(), 30);
        x.subscribe(0, 2, 400);
        x.advance(20);
        due("other entries", x.count(4), 30);
        x.undo();
        x.undo();
        due("undo of the flush", x.undo(), 2);
        due("entries", x.count(4), 30);
        for (int index = 0; index < 30; index++) {
            due("client of " + index, x.entry(index, 0), 0);
            due("stamp of " + index, x.entry(index, 1), index + 1);
            due("value of " + index, x.entry(index, 2), index + 1);
        }
    }

    private static void wakesAreUndone() {
        CHECK.test("promise 13: wakes, deliveries and their ages are undone with their action");
        SensorHub x = Hubs.clockFor(3);
        x.advance(2);
        x.advance(30);
        due("deadline", x.wakes(0), 8);
        due("blamed", x.client(0, 8), 8);
        due("undo", x.undo(), 3);
        due("deadline", x.wakes(0), 0);
        due("blamed", x.client(0, 8), 0);
        due("delivered", x.client(0, 5), 0);
        due("greatest age", x.client(0, 7), Hubs.NONE);
        due("the latest one", x.delivered(0, 0, 0), Hubs.NONE);
        due("entries", x.count(4), 2);
        due("energy", x.count(6), 2);
        due("until the deadline", x.advance(2), 1);
        due("delivered", x.delivered(0, 0, 0), 4);
    }

    private static void loadIsUndone() {
        CHECK.test("promise 10: \"This is an action\": undone, all is as before it but for the text");
        SensorHub x = Hubs.clockFor(400);
        x.addOutage(0, 4, 5);
        x.advance(6);
        String before = Looks.at(x);
        due("load of nothing", x.load(), 0);
        due("sensors", x.count(1), 0);
        due("states", x.count(8), 5);
        due("undo", x.undo(), 4);
        CHECK.isTrue("all is as before", Looks.at(x).equals(before));
        Hubs.write(x, "sensor 2 1 1 1 1 1;");
        due("load", x.load(), 1);
        x.subscribe(0, 2, 0);
        x.undo();
        x.undo();
        CHECK.isTrue("all is as before again", Looks.at(x).equals(before));
        due("text", x.count(9), 0);
    }

    private static void goesOnAsBefore() {
        CHECK.test("promise 13: what is done again after an undo goes as it went the first time");
        SensorHub x = Hubs.of(TEXT);
        x.subscribe(3, 7, 20);
        x.advance(13);
        int wakes = x.advance(50);
        String after = Looks.at(x);
        x.undo();
        due("advance again", x.advance(50), wakes);
        CHECK.isTrue("all is as it was the first time", Looks.at(x).equals(after));
    }

    private static void undoneTwice() {
        CHECK.test("promise 13: \"Removes the latest state\": it is not restored a second time");
        SensorHub x = new SensorHub();
        x.advance(1);
        x.advance(2);
        x.undo();
        x.advance(4);
        due("now", x.count(0), 5);
        due("undo", x.undo(), 1);
        due("now", x.count(0), 1);
        due("undo", x.undo(), 0);
        due("now", x.count(0), 0);
        due("empty", x.undo(), Hubs.ILLEGAL);
    }
}
