/** Each promise of the document: ordinary inputs, its edges, and wrong inputs, with answers worked out by hand. */
public final class PromiseTests {
    private static final int INVALID = -1;
    private static final int ILLEGAL = -2;
    private static final int NO_ROOM = -3;
    private static final int MISSING = -8;
    private static final int NONE = -9;

    private static final Check CHECK = new Check("PromiseTests");

    public static void main(String[] args) {
        newObject();
        addSensor();
        addDerived();
        addOutage();
        subscribe();
        demandsAndPeriods();
        restarts();
        unsubscribe();
        setCapacity();
        append();
        clearText();
        load();
        loadAfterForecasts();
        loadErrors();
        loadTokens();
        advance();
        samples();
        derivedSamples();
        means();
        divisions();
        wakesInATick();
        flush();
        undo();
        count();
        wakes();
        sensor();
        client();
        entry();
        delivered();
        nextDeadline();
        forecastWakes();
        smallestCapacity();
        tightestClient();
        extremeArguments();
        CHECK.finish();
    }

    private static void due(String call, int got, int want) {
        CHECK.due(call, got, want);
    }

    private static void write(SensorHub x, String text) {
        for (int i = 0; i < text.length(); i++) {
            x.append(text.charAt(i));
        }
    }

    /** Loads the text into a new hub. */
    private static int loaded(String text) {
        SensorHub x = new SensorHub();
        write(x, text);
        return x.load();
    }

    private static SensorHub hubOf(String text) {
        SensorHub x = new SensorHub();
        write(x, text);
        due("load of " + text, x.load() > 0 ? 1 : 0, 1);
        return x;
    }

    /** A sensor with the periods 1, 2, .. 16 and no jitter, whose value is the time. */
    private static SensorHub clock() {
        SensorHub x = new SensorHub();
        x.addSensor(1, 5, 1, 0, 0, 1);
        return x;
    }

    private static void dueStates(SensorHub x, int states) {
        due("count(8)", x.count(8), states);
    }

    private static void newObject() {
        CHECK.test("promise 1, a new object");
        SensorHub x = new SensorHub();
        for (int what = 0; what <= 9; what++) {
            due("count(" + what + ")", x.count(what), what == 5 ? 10 : 0);
        }
        for (int cause = 0; cause <= 3; cause++) {
            due("wakes(" + cause + ")", x.wakes(cause), 0);
        }
        due("sensor(0, 0)", x.sensor(0, 0), INVALID);
        due("client(0, 0)", x.client(0, 0), INVALID);
        due("entry(0, 0)", x.entry(0, 0), NONE);
    }

    private static void addSensor() {
        CHECK.test("promise 2, addSensor");
        SensorHub x = new SensorHub();
        due("least of all", x.addSensor(1, 1, 0, 0, 0, 1), 0);
        due("greatest of all", x.addSensor(20, 5, 99, 999, 9, 50), 1);
        due("jitter one less than q", x.addSensor(3, 1, 0, 0, 2, 1), 2);
        due("kind", x.sensor(1, 0), 4);
        dueStates(x, 3);
        int[][] wrong = {{0, 1, 0, 0, 0, 1}, {21, 1, 0, 0, 0, 1}, {5, 0, 0, 0, 0, 1}, {5, 6, 0, 0, 0, 1},
            {5, 1, -1, 0, 0, 1}, {5, 1, 100, 0, 0, 1}, {5, 1, 0, -1, 0, 1}, {5, 1, 0, 1000, 0, 1},
            {5, 1, 0, 0, -1, 1}, {20, 1, 0, 0, 10, 1}, {5, 1, 0, 0, 5, 1}, {1, 1, 0, 0, 1, 1}, {5, 1, 0, 0, 0, 0},
            {5, 1, 0, 0, 0, 51}};
        for (int[] w : wrong) {
            due("addSensor" + java.util.Arrays.toString(w), x.addSensor(w[0], w[1], w[2], w[3], w[4], w[5]), INVALID);
        }
        due("sensors", x.count(1), 3);
        dueStates(x, 3);
        for (int number = 3; number < 8; number++) {
            due("addSensor", x.addSensor(1, 1, 0, 0, 0, 1), number);
        }
        due("a ninth", x.addSensor(1, 1, 0, 0, 0, 1), NO_ROOM);
        due("a wrong ninth", x.addSensor(0, 1, 0, 0, 0, 1), INVALID);
        due("sensors", x.count(1), 8);
    }

    private static void addDerived() {
        CHECK.test("promise 3, addDerived");
        SensorHub x = new SensorHub();
        due("no sensor yet", x.addDerived(0, 0, 0), INVALID);
        x.addSensor(2, 1, 0, 0, 0, 1);
        due("sum", x.addDerived(0, 0, 0), 1);
        due("difference", x.addDerived(1, 1, 0), 2);
        due("greater", x.addDerived(2, 0, 2), 3);
        due("mean", x.addDerived(3, 3, 8), 4);
        for (int number = 1; number <= 4; number++) {
            due("kind of " + number, x.sensor(number, 0), number - 1);
        }
        dueStates(x, 5);
        due("kind -1", x.addDerived(-1, 0, 0), INVALID);
        due("kind 4", x.addDerived(4, 0, 0), INVALID);
        due("itself", x.addDerived(0, 5, 0), INVALID);
        due("itself as second", x.addDerived(0, 0, 5), INVALID);
        due("first -1", x.addDerived(2, -1, 0), INVALID);
        due("second -1", x.addDerived(2, 0, -1), INVALID);
        due("length 0", x.addDerived(3, 0, 0), INVALID);
        due("length 9", x.addDerived(3, 0, 9), INVALID);
        due("mean of none", x.addDerived(3, 5, 1), INVALID);
        due("mean of the length 7, which is no sensor", x.addDerived(3, 0, 7), 5);
        due("mean of the length 1", x.addDerived(3, 0, 1), 6);
        due("the eighth", x.addDerived(0, 6, 6), 7);
        due("a ninth", x.addDerived(0, 0, 0), NO_ROOM);
        due("a wrong ninth", x.addDerived(0, 8, 0), INVALID);
        due("a physical ninth", x.addSensor(1, 1, 0, 0, 0, 1), NO_ROOM);
    }

    private static void addOutage() {
        CHECK.test("promise 4, addOutage");
        SensorHub x = hubOf("sensor 2 1 1 0 0 1; sum 0 0;");
        due("of a derived sensor", x.addOutage(1, 0, 0), INVALID);
        due("of none", x.addOutage(2, 0, 0), INVALID);
        due("of -1", x.addOutage(-1, 0, 0), INVALID);
        due("first -1", x.addOutage(0, -1, 5), INVALID);
        due("first 10000", x.addOutage(0, 10000, 10000), INVALID);
        due("last before first", x.addOutage(0, 5, 4), INVALID);
        due("last 10000", x.addOutage(0, 5, 10000), INVALID);
        dueStates(x, 1);
        due("one tick", x.addOutage(0, 4, 4), 1);
        due("of two ticks", x.addOutage(0, 8, 9), 2);
        due("the last tick", x.addOutage(0, 9999, 9999), 3);
        due("all ticks of a time", x.addOutage(0, 11, 12), 4);
        dueStates(x, 5);
        due("a fifth", x.addOutage(0, 0, 9999), NO_ROOM);
        due("a wrong fifth", x.addOutage(1, 0, 9999), INVALID);
        x.subscribe(0, 2, 0);
        int[] values = {2, MISSING, 6, MISSING, 10, MISSING, 14};
        for (int value : values) {
            x.advance(2);
            due("value at " + x.count(0), x.sensor(0, 5), value);
        }
        outageOfTheTimeThatASampleBelongsTo();
    }

    private static void outageOfTheTimeThatASampleBelongsTo() {
        // The sensor 1 has its first sample at 4 and receives it at 5.
        SensorHub x = hubOf("sensor 1 1 0 0 0 1; sensor 4 1 1 0 1 1;");
        x.subscribe(1, 4, 0);
        x.advance(4);
        due("samples", x.sensor(1, 3), 0);
        x.addOutage(1, 4, 4);
        x.advance(1);
        due("an outage that came after the time", x.sensor(1, 5), MISSING);
        x.undo();
        x.undo();
        x.addOutage(1, 5, 5);
        x.advance(1);
        due("an outage when it is received", x.sensor(1, 5), 4);
        SensorHub y = hubOf("sensor 4 1 1 0 0 1; sensor 4 1 1 0 0 1; outage 1 0 9999;");
        y.subscribe(0, 4, 0);
        y.advance(4);
        due("an outage of another sensor", y.sensor(0, 5), 4);
    }

    private static void subscribe() {
        CHECK.test("promise 5, subscribe");
        SensorHub x = hubOf("sensor 5 2 1 0 0 3; sensor 7 1 0 0 0 1; sum 0 1; mean 2 3;");
        due("no such sensor", x.subscribe(4, 10, 0), INVALID);
        due("sensor -1", x.subscribe(-1, 10, 0), INVALID);
        due("period 0", x.subscribe(0, 0, 0), INVALID);
        due("period 401", x.subscribe(0, 401, 0), INVALID);
        due("delay -1", x.subscribe(0, 5, -1), INVALID);
        due("delay 401", x.subscribe(0, 5, 401), INVALID);
        due("too fast, delay 401", x.subscribe(0, 4, 401), INVALID);
        due("too fast", x.subscribe(0, 4, 0), ILLEGAL);
        due("too fast for the second input", x.subscribe(2, 6, 0), ILLEGAL);
        due("too fast for an input of the input", x.subscribe(3, 6, 0), ILLEGAL);
        dueStates(x, 1);
        due("just slow enough", x.subscribe(0, 5, 400), 0);
        due("the same through inputs", x.subscribe(3, 7, 0), 1);
        for (int number = 2; number < 8; number++) {
            due("subscribe", x.subscribe(0, 400, 0), number);
        }
        due("a ninth", x.subscribe(0, 5, 0), NO_ROOM);
        due("a ninth that is too fast", x.subscribe(0, 4, 0), ILLEGAL);
        due("a wrong ninth", x.subscribe(0, 4, -1), INVALID);
        x.unsubscribe(5);
        x.unsubscribe(2);
        due("the smallest free number", x.subscribe(0, 6, 0), 2);
        due("the next free number", x.subscribe(0, 6, 0), 5);
        due("clients", x.count(2), 8);
        wakeBeforeSubscribe();
    }

    private static void wakeBeforeSubscribe() {
        SensorHub x = clock();
        x.subscribe(0, 1, 400);
        x.advance(3);
        due("entries", x.count(4), 3);
        due("energy", x.count(6), 3);
        due("subscribe", x.subscribe(0, 5, 0), 1);
        due("entries", x.count(4), 0);
        due("change", x.wakes(2), 1);
        due("energy", x.count(6), 23);
        due("delivered", x.client(0, 5), 3);
        due("subscribe with an empty store", x.subscribe(0, 5, 0), 2);
        due("change", x.wakes(2), 1);
        due("a refused one", x.subscribe(0, 5, 500), INVALID);
    }

    private static void demandsAndPeriods() {
        CHECK.test("promises 5 and 16, demands and periods");
        SensorHub x = hubOf("sensor 3 3 0 0 0 1; sensor 2 5 0 0 0 1; diff 1 0; mean 2 1; max 0 3;");
        for (int number = 0; number < 5; number++) {
            due("demand on " + number, x.sensor(number, 1), NONE);
            due("period of " + number, x.sensor(number, 2), NONE);
        }
        x.subscribe(3, 100, 0);
        int[] demands = {100, 100, 100, 100, NONE};
        int[] periods = {12, 32, 32, 32, NONE};
        dueDemands(x, demands, periods);
        x.subscribe(4, 31, 0);
        dueDemands(x, new int[] {31, 31, 31, 31, 31}, new int[] {12, 16, 16, 16, 12});
        x.subscribe(1, 4, 0);
        dueDemands(x, new int[] {31, 4, 31, 31, 31}, new int[] {12, 4, 4, 4, 12});
        x.subscribe(0, 11, 0);
        dueDemands(x, new int[] {11, 4, 31, 31, 31}, new int[] {6, 4, 4, 4, 6});
        x.unsubscribe(1);
        dueDemands(x, new int[] {11, 4, 100, 100, NONE}, new int[] {6, 4, 4, 4, NONE});
        x.unsubscribe(0);
        dueDemands(x, new int[] {11, 4, NONE, NONE, NONE}, new int[] {6, 4, NONE, NONE, NONE});
        int[] sources = {0, 1, 1, 1, 0};
        for (int number = 0; number < 5; number++) {
            due("source of " + number, x.sensor(number, 6), sources[number]);
        }
        demandOfTheLastSensor();
    }

    private static void demandOfTheLastSensor() {
        SensorHub x = hubOf("sensor 3 3 0 0 0 1;mean 0 1;mean 1 1;mean 2 1;mean 3 1;mean 4 1;mean 5 1;mean 6 1;");
        x.subscribe(7, 6, 0);
        for (int number = 0; number < 8; number++) {
            due("demand on " + number, x.sensor(number, 1), 6);
            due("period of " + number, x.sensor(number, 2), 6);
        }
        due("advance", x.advance(6), 1);
    }

    private static void dueDemands(SensorHub x, int[] demands, int[] periods) {
        for (int number = 0; number < demands.length; number++) {
            due("demand on " + number, x.sensor(number, 1), demands[number]);
            due("period of " + number, x.sensor(number, 2), periods[number]);
        }
    }

    private static void restarts() {
        CHECK.test("promises 5 and 6, restarts");
        SensorHub x = hubOf("sensor 4 2 1 0 0 1; sensor 3 1 1 0 0 1; sum 0 0;");
        x.subscribe(0, 8, 400);
        x.advance(17);
        due("samples", x.sensor(0, 3), 2);
        x.subscribe(0, 9, 400);
        due("no restart if the period stays", x.count(7), 0);
        x.subscribe(2, 8, 400);
        due("no restart for a derived sensor", x.count(7), 0);
        due("samples", x.sensor(0, 3), 2);
        x.advance(2);
        x.subscribe(1, 5, 400);
        due("restart as another sensor is on", x.count(7), 19);
        due("samples are forgotten", x.sensor(0, 3), 0);
        due("stamp is forgotten", x.sensor(0, 4), NONE);
        due("value is forgotten", x.sensor(0, 5), NONE);
        x.advance(7);
        due("samples", x.sensor(0, 3), 0);
        x.advance(1);
        due("sample 8 ticks after the restart", x.sensor(0, 5), 27);
        x.unsubscribe(1);
        due("no restart as another one keeps the period", x.count(7), 19);
        x.subscribe(0, 7, 0);
        due("restart as the period changes", x.count(7), 27);
        due("period", x.sensor(0, 2), 4);
        x.advance(1);
        x.unsubscribe(1);
        due("restart as the period changes back", x.count(7), 28);
        due("period", x.sensor(0, 2), 8);
        x.advance(1);
        x.unsubscribe(3);
        due("restart as a sensor is off", x.count(7), 29);
    }

    private static void unsubscribe() {
        CHECK.test("promise 6, unsubscribe");
        SensorHub x = clock();
        x.subscribe(0, 1, 2);
        x.subscribe(0, 2, 400);
        due("no such client", x.unsubscribe(2), INVALID);
        due("client -1", x.unsubscribe(-1), INVALID);
        due("client 8", x.unsubscribe(8), INVALID);
        dueStates(x, 3);
        // Entries at 1 (both), 2, 3 (both; a wake), 4, 5 (both).
        due("wakes", x.advance(5), 1);
        due("entries", x.count(4), 3);
        due("unsubscribe", x.unsubscribe(1), 3);
        due("change", x.wakes(2), 1);
        due("entries", x.count(4), 0);
        due("clients", x.count(2), 1);
        due("the other's entries", x.client(0, 5), 5);
        due("it is gone", x.client(1, 0), INVALID);
        due("twice", x.unsubscribe(1), INVALID);
        due("with an empty store", x.unsubscribe(0), 5);
        due("change", x.wakes(2), 1);
        aNumberThatIsUsedAgain();
    }

    private static void aNumberThatIsUsedAgain() {
        SensorHub x = clock();
        x.addOutage(0, 1, 3);
        x.subscribe(0, 1, 400);
        x.subscribe(0, 2, 1);
        x.advance(6);
        dueClient(x, 1, new int[] {0, 2, 1, 2, 0, 3, 2, 1, 3});
        x.unsubscribe(1);
        due("subscribe", x.subscribe(0, 5, 400), 1);
        due("no restart", x.count(7), 0);
        dueClient(x, 1, new int[] {0, 5, 400, 5, 0, 0, 0, NONE, 0});
        due("its deliveries", x.delivered(1, 0, 0), NONE);
        x.advance(1);
        due("it takes the first sample", x.client(1, 4), 1);
    }

    private static void setCapacity() {
        CHECK.test("promise 7, setCapacity");
        SensorHub x = clock();
        due("0", x.setCapacity(0), INVALID);
        due("31", x.setCapacity(31), INVALID);
        dueStates(x, 1);
        due("30", x.setCapacity(30), 10);
        due("1", x.setCapacity(1), 30);
        due("2", x.setCapacity(2), 1);
        dueStates(x, 4);
        x.subscribe(0, 1, 400);
        due("advance", x.advance(2), 0);
        due("the same", x.setCapacity(2), 2);
        due("change", x.wakes(2), 1);
        due("entries", x.count(4), 0);
        due("full wakes", x.advance(5), 2);
        due("full", x.wakes(1), 2);
    }

    private static void append() {
        CHECK.test("promise 8, append");
        SensorHub x = new SensorHub();
        due("0", x.append(0), INVALID);
        due("-1", x.append(-1), INVALID);
        due("256", x.append(256), INVALID);
        due("1", x.append(1), 1);
        due("255", x.append(255), 2);
        for (int length = 3; length <= 160; length++) {
            due("append", x.append(' '), length);
        }
        due("the 161st", x.append(' '), NO_ROOM);
        due("a wrong 161st", x.append(0), INVALID);
        due("length", x.count(9), 160);
        dueStates(x, 0);
    }

    private static void clearText() {
        CHECK.test("promise 9, clearText");
        SensorHub x = new SensorHub();
        due("empty", x.clearText(), 0);
        write(x, "sum");
        due("three", x.clearText(), 3);
        due("length", x.count(9), 0);
        due("again", x.clearText(), 0);
        due("load of nothing", x.load(), 0);
        dueStates(x, 1);
    }

    private static void load() {
        CHECK.test("promise 10, load");
        SensorHub x = clock();
        x.subscribe(0, 1, 0);
        x.setCapacity(7);
        x.advance(5);
        write(x, "sensor 4 2 3 10 3 6;outage 0 12 13;mean 0 2;max 1 0;");
        due("load", x.load(), 4);
        int[] counts = {0, 3, 0, 1, 0, 10, 0, 0, 5, 0};
        for (int what = 0; what <= 9; what++) {
            due("count(" + what + ")", x.count(what), counts[what]);
        }
        due("wakes", x.wakes(0), 0);
        due("kind", x.sensor(2, 0), 2);
        due("subscribe", x.subscribe(2, 6, 0), 0);
        due("the sensor is off at first", x.sensor(0, 3), 0);
        x.advance(4);
        due("value", x.sensor(2, 5), 22);
        due("energy", x.count(6), 26);
        x.undo();
        x.undo();
        due("undone", x.undo(), 2);
        due("now", x.count(0), 5);
        due("sensors", x.count(1), 1);
        due("capacity", x.count(5), 7);
        write(x, "sensor 4 2 3 10 3;");
        due("load of a wrong text", x.load(), -10 - 17);
        due("the text is kept", x.count(9), 18);
        due("now", x.count(0), 5);
        dueStates(x, 2);
        x.clearText();
        due("load of nothing", x.load(), 0);
        due("sensors", x.count(1), 0);
        dueStates(x, 3);
    }

    /** A text is read as if nothing had been before, whatever was looked at before. */
    private static void loadAfterForecasts() {
        SensorHub x = hubOf("sensor 1 5 1 0 0 1;sensor 1 5 1 0 0 1;outage 0 1 5;");
        x.subscribe(0, 1, 2);
        x.subscribe(1, 7, 400);
        x.advance(3);
        x.unsubscribe(1);
        x.setCapacity(7);
        x.subscribe(0, 1, 400);
        x.subscribe(1, 1, 400);
        due("restart", x.count(7), 3);
        x.advance(5);
        due("a forecast that ends with four entries in the store", x.forecastWakes(1, 1), 0);
        write(x, "sensor 3 1 1 0 0 1;mean 0 3;");
        due("load", x.load(), 2);
        int[] counts = {0, 2, 0, 0, 0, 10, 0, 0, 5, 0};
        for (int what = 0; what <= 9; what++) {
            due("count(" + what + ")", x.count(what), counts[what]);
        }
        for (int cause = 0; cause <= 3; cause++) {
            due("wakes(" + cause + ")", x.wakes(cause), 0);
        }
        for (int number = 0; number < 2; number++) {
            int[] properties = {number == 0 ? 4 : 3, NONE, NONE, 0, NONE, NONE, 0};
            for (int what = 0; what <= 6; what++) {
                due("sensor(" + number + ", " + what + ")", x.sensor(number, what), properties[what]);
            }
        }
        x.subscribe(1, 3, 400);
        x.advance(3);
        due("mean of one", x.sensor(1, 5), 3);
    }

    private static void loadErrors() {
        CHECK.test("promise 10, errors of load");
        due("another word", loaded("summ 0 0;"), -10);
        due("another word of the same length", loaded("xensor 1 1 0 0 0 1;"), -10);
        due("another last letter", loaded("sensoz 1 1 0 0 0 1;"), -10);
        due("a longer word", loaded("sensorz 1 1 0 0 0 1;"), -10);
        due("a part of a word", loaded("sens 1 1 0 0 0 1;"), -10);
        due("a number", loaded(" 5;"), -11);
        due("an end", loaded(";"), -10);
        due("a capital", loaded("Sensor"), -10);
        due("the end inside", loaded("sensor 4  "), -20);
        due("the end before ;", loaded("sensor 4 1 0 0 0 1"), -28);
        due("a word for a number", loaded("sensor four"), -17);
        due("q 0", loaded("sensor 0 1 0 0 0 1;"), -17);
        due("q 21", loaded("sensor 21 1 0 0 0 1;"), -17);
        due("steps 6", loaded("sensor 20 6 0 0 0 1;"), -20);
        due("steps 0", loaded("sensor 20 0 0 0 0 1;"), -20);
        due("slope 100", loaded("sensor 20 5 100 0 0 1;"), -22);
        due("offset 1000", loaded("sensor 20 5 99 1000 0 1;"), -25);
        due("jitter 10", loaded("sensor 20 5 99 999 10 1;"), -29);
        due("jitter q", loaded("sensor 4 5 99 999 4 1;"), -28);
        due("cost 0", loaded("sensor 20 5 99 999 9 0;"), -31);
        due("cost 51", loaded("sensor 20 5 99 999 9 51;"), -31);
        due("greatest of all", loaded("sensor 20 5 99 999 9 50;"), 1);
        due("a number too many", loaded("sensor 1 1 0 0 0 1 1;"), -29);
        String s = "sensor 1 1 0 0 0 1;";
        due("no input", loaded(s + "sum 1 0;"), -10 - 23);
        due("no second input", loaded(s + "diff 0 1;"), -10 - 26);
        due("length 0", loaded(s + "mean 0 0;"), -10 - 26);
        due("length 9", loaded(s + "mean 0 9;"), -10 - 26);
        due("length 8", loaded(s + "mean 0 8;"), 2);
        due("outage of none", loaded(s + "outage 1 0 0;"), -10 - 26);
        due("outage of a derived", loaded(s + "max 0 0;outage 1 0 0;"), -10 - 34);
        due("last before first", loaded(s + "outage 0 5 4;"), -10 - 30);
        due("first of five digits", loaded(s + "outage 0 10000 4;"), -10 - 28);
        due("to 9999", loaded(s + "outage 0 9999 9999;"), 2);
        roomForItems();
    }

    private static void roomForItems() {
        String eight = "sensor1 1 0 0 0 1;" + "sum0 0;".repeat(7);
        due("eight", loaded(eight), 8);
        due("a ninth sensor", loaded(eight + " sensor"), -10 - 68);
        due("a ninth sum", loaded(eight + "sum 9;"), -10 - 67);
        due("a ninth mean", loaded(eight + "mean0 1;"), -10 - 67);
        due("an outage after eight", loaded(eight + "outage0 0 0;"), 9);
        String four = "sensor1 1 0 0 0 1;" + "outage0 0 0;".repeat(4);
        due("four outages", loaded(four), 5);
        due("a fifth outage", loaded(four + "outage x"), -10 - 66);
        due("a sensor after four outages", loaded(four + "mean0 1;"), 6);
    }

    private static void loadTokens() {
        CHECK.test("promise 10, tokens");
        due("spaces", loaded("  sensor  1  1 0 0 0   1  ;  "), 1);
        due("few spaces", loaded("sensor1 1 0 0 0 1;sum0 0;"), 2);
        due("only spaces", loaded("   "), 0);
        due("two words in one", loaded("sensorsensor"), -10);
        due("a leading 0", loaded("sensor 01 1 0 0 0 1;"), -17);
        due("00", loaded("sensor 1 1 00 0 0 1;"), -21);
        due("five digits", loaded("sensor 1 1 0 00000 0 1;"), -23);
        due("many digits", loaded("sensor 1 1 0 99999999999999999999 0 1;"), -23);
        due("a number before a word", loaded("sensor 1 1 0 0 0 1a;"), -28);
        due("a tab", loaded("sensor\t1 1 0 0 0 1;"), -16);
        due("a minus", loaded("sensor -1 1 0 0 0 1;"), -17);
        due("a letter beyond z", loaded("sensor 1 1 0 0 0 1;sum{"), -10 - 22);
        due("two ends", loaded("sensor 1 1 0 0 0 1;;"), -10 - 19);
        due("an input that comes later", loaded("sum 0 0;sensor 1 1 0 0 0 1;"), -14);
        due("a whole text", loaded("sensor1 1 0 0 0 1;" + " ".repeat(142)), 1);
        SensorHub x = new SensorHub();
        write(x, "sensor" + " ".repeat(154));
        due("the end of a whole text", x.load(), -170);
    }

    private static void advance() {
        CHECK.test("promise 11, advance");
        SensorHub x = new SensorHub();
        due("0", x.advance(0), INVALID);
        due("-1", x.advance(-1), INVALID);
        due("501", x.advance(501), INVALID);
        dueStates(x, 0);
        for (int i = 0; i < 19; i++) {
            due("advance", x.advance(500), 0);
        }
        due("one too many", x.advance(500), NO_ROOM);
        due("a wrong one", x.advance(501), INVALID);
        due("now", x.count(0), 9500);
        due("the last", x.advance(499), 0);
        due("now", x.count(0), 9999);
        due("none left", x.advance(1), NO_ROOM);
        x.undo();
        due("restored", x.count(0), 9500);
        SensorHub y = clock();
        y.subscribe(0, 1, 400);
        y.setCapacity(3);
        due("wakes of all causes", y.advance(500), 166);
    }

    private static void samples() {
        CHECK.test("promise 11, samples and stamps");
        // The sensor 3 is late by 3, 2, 1, 0, 3, .. ticks: received at 11, 18, 25, 32, 43.
        SensorHub x = hubOf("sensor 1 1 0 0 0 1;sensor 1 1 0 0 0 1;sum 0 0;sensor 4 2 99 990 3 7;");
        x.subscribe(3, 9, 400);
        int[] times = {11, 18, 25, 32, 43, 50, 57, 64};
        int[] stamps = {11, 18, 25, 32, 40, 48, 56, 64};
        for (int i = 0; i < times.length; i++) {
            x.advance(times[i] - 1 - x.count(0));
            due("samples before " + times[i], x.sensor(3, 3), i);
            x.advance(1);
            due("samples at " + times[i], x.sensor(3, 3), i + 1);
            due("stamp at " + times[i], x.sensor(3, 4), stamps[i]);
            due("value at " + times[i], x.sensor(3, 5), (99 * 8 * (i + 1) + 990) % 1000);
        }
        due("energy", x.count(6), 56);
        due("samples of a sensor that is off", x.sensor(0, 3), 0);
        smoothing();
        smoothingOfAQuarter();
        missingSamples();
    }

    private static void smoothingOfAQuarter() {
        // Late by 0, 2, 4, 1, 3, 0, 2, 4 of the period 5; expected are 10, 15, 21, 26, 31, 35, 40.
        SensorHub x = hubOf("sensor 5 1 1 0 4 1;");
        x.subscribe(0, 5, 400);
        int[] stamps = {5, 10, 16, 21, 26, 30, 35, 41};
        int[] late = {0, 2, 4, 1, 3, 0, 2, 4};
        for (int i = 0; i < stamps.length; i++) {
            x.advance(5 * (i + 1) + late[i] - x.count(0));
            due("stamp " + i, x.sensor(0, 4), stamps[i]);
        }
    }

    private static void smoothing() {
        // Late by 0, 7, 4, 1, 8, 5, 2, 9, 6, 3, 0 of the period 10.
        SensorHub x = hubOf("sensor 10 1 1 0 9 1;");
        x.subscribe(0, 10, 400);
        int[] stamps = {10, 21, 31, 41, 52, 62, 72, 83, 93, 103, 112};
        int[] late = {0, 7, 4, 1, 8, 5, 2, 9, 6, 3, 0};
        for (int i = 0; i < stamps.length; i++) {
            x.advance(10 * (i + 1) + late[i] - x.count(0));
            due("stamp " + i, x.sensor(0, 4), stamps[i]);
        }
    }

    private static void missingSamples() {
        SensorHub x = hubOf("sensor 5 1 1 0 0 4;outage 0 10 10;");
        x.subscribe(0, 5, 400);
        x.advance(10);
        due("a missing one is received", x.sensor(0, 3), 2);
        due("its stamp", x.sensor(0, 4), 10);
        due("its value", x.sensor(0, 5), MISSING);
        due("its cost", x.count(6), 8);
        due("its entry", x.entry(1, 2), MISSING);
        due("the entry before", x.entry(0, 2), 5);
    }

    private static void derivedSamples() {
        CHECK.test("promise 11, samples of derived sensors");
        // The values: 3 * T + 100 every 2 ticks, 700 - that is 7 * T + 690 every 3 ticks.
        SensorHub x = hubOf("sensor 2 1 3 100 0 1;sensor 3 1 7 690 0 1;sum 0 1;diff 0 1;max 0 1;sum 1 1;");
        for (int number = 2; number <= 5; number++) {
            x.subscribe(number, 3, 400);
        }
        x.advance(2);
        due("sum without y", x.sensor(2, 5), MISSING);
        due("difference without y", x.sensor(3, 5), MISSING);
        due("greater without y", x.sensor(4, 5), MISSING);
        x.advance(1);
        due("no sample for the second input", x.sensor(2, 3), 1);
        due("the same twice", x.sensor(5, 5), 422);
        x.advance(1);
        due("sum", x.sensor(2, 5), 112 + 711);
        due("difference", x.sensor(3, 5), 112 - 711 + 1000);
        due("greater", x.sensor(4, 5), 711);
        x.advance(2);
        due("sum with y of the same tick", x.sensor(2, 5), 118 + 732);
        due("stamp", x.sensor(2, 4), 6);
        x.addOutage(1, 9, 9);
        x.advance(4);
        due("sum with y missing", x.sensor(2, 5), MISSING);
        x.addOutage(0, 14, 14);
        x.advance(2);
        due("sum of 136 and 774", x.sensor(2, 5), 910);
        x.advance(2);
        due("sum with x missing", x.sensor(2, 5), MISSING);
        due("greater with x missing", x.sensor(4, 5), MISSING);
        due("energy", x.count(6), 7 + 4 + 20 * x.wakes(1));
        derivedStamps();
    }

    private static void derivedStamps() {
        SensorHub x = hubOf("sensor 2 1 0 1 0 1;sensor 8 1 0 5 3 1;max 1 0;mean 2 2;");
        x.subscribe(3, 8, 400);
        // The sensor 1 is late by 1, 0, 3, .. ticks: received at 9, 16, 27.
        x.advance(9);
        due("stamp", x.sensor(3, 4), 9);
        x.advance(7);
        due("samples", x.sensor(3, 3), 2);
        due("a stamp that was smoothed", x.sensor(3, 4), 16);
        x.advance(11);
        due("a stamp before now", x.sensor(3, 4), 24);
        due("the stamp of the entry", x.entry(2, 1), 24);
    }

    private static void means() {
        CHECK.test("promise 11, means");
        SensorHub x = hubOf("sensor 2 1 5 0 0 1;mean 0 3;mean 0 8;mean 0 1;outage 0 8 10;");
        x.subscribe(1, 2, 400);
        // The values: 10, 20, 30, missing at 8 and at 10, 60, 70, ..
        int[] means = {10, 15, 20, MISSING, MISSING, (20 + 30 + 60) / 3, (30 + 60 + 70) / 3, 70};
        for (int mean : means) {
            x.advance(2);
            due("mean at " + x.count(0), x.sensor(1, 5), mean);
        }
        x.subscribe(2, 2, 400);
        due("no restart", x.count(7), 0);
        x.advance(2);
        due("samples that came before it was on", x.sensor(2, 5), (10 + 20 + 30 + 60 + 70 + 80 + 90) / 7);
        x.advance(4);
        due("as many as the length", x.sensor(2, 5), (20 + 30 + 60 + 70 + 80 + 90 + 100 + 110) / 8);
        due("samples since it was on", x.sensor(2, 3), 3);
        x.unsubscribe(1);
        x.subscribe(3, 2, 400);
        x.advance(2);
        due("a length of one", x.sensor(3, 5), 120);
        due("a sensor that is off keeps its sample", x.sensor(2, 5), 70);
        x.subscribe(0, 2, 0);
        x.unsubscribe(0);
        due("samples of one that is off", x.sensor(1, 3), 12);
        meansForgetAtARestart();
    }

    private static void meansForgetAtARestart() {
        SensorHub x = hubOf("sensor 2 1 5 0 0 1;mean 0 8;sensor 3 1 0 0 0 1;");
        x.subscribe(1, 2, 400);
        x.advance(6);
        due("mean of three", x.sensor(1, 5), 20);
        x.subscribe(2, 3, 400);
        due("no sample", x.sensor(1, 5), NONE);
        x.advance(2);
        due("mean of one", x.sensor(1, 5), 40);
        x.advance(2);
        due("mean of two", x.sensor(1, 5), 45);
    }

    private static void divisions() {
        CHECK.test("promise 11, each k-th sample");
        SensorHub x = hubOf("sensor 3 1 1 0 0 1;");
        x.subscribe(0, 3, 400);
        x.subscribe(0, 11, 400);
        due("k of 3", x.client(0, 3), 1);
        due("k of 11", x.client(1, 3), 3);
        x.advance(7);
        x.subscribe(0, 8, 400);
        due("no restart", x.count(7), 0);
        x.advance(12);
        // Samples at 9, 12 (the second client's), 15, 18: the third one begins with the sample at 9.
        int[] clients = {0, 2, 0, 1, 0, 2, 0};
        int[] stamps = {9, 9, 12, 12, 15, 15, 18};
        due("entries", x.count(4), clients.length);
        for (int i = 0; i < clients.length; i++) {
            due("client of the entry " + i, x.entry(i, 0), clients[i]);
            due("stamp of the entry " + i, x.entry(i, 1), stamps[i]);
        }
        afterARestartTheFirstIsTaken();
    }

    private static void afterARestartTheFirstIsTaken() {
        SensorHub x = hubOf("sensor 3 1 1 0 0 1;sensor 5 1 0 0 0 1;");
        x.subscribe(0, 9, 400);
        x.advance(4);
        x.subscribe(1, 400, 400);
        due("restart", x.count(7), 4);
        x.advance(3);
        due("taken again", x.entry(0, 1), 7);
        x.advance(8);
        due("not the next two", x.count(4), 2);
        due("the other's", x.entry(1, 0), 1);
        x.advance(1);
        due("but the third", x.entry(2, 1), 16);
    }

    private static void wakesInATick() {
        CHECK.test("promise 11, the wakes of a tick");
        SensorHub x = hubOf("sensor 4 1 1 0 0 1;");
        x.setCapacity(1);
        x.subscribe(0, 4, 0);
        x.subscribe(0, 4, 3);
        x.subscribe(0, 4, 0);
        due("two for full and one for the deadline", x.advance(4), 3);
        due("full", x.wakes(1), 2);
        due("deadline", x.wakes(0), 1);
        due("the one to blame", x.client(2, 8), 1);
        due("not to blame", x.client(0, 8), 0);
        due("energy", x.count(6), 61);
        SensorHub y = hubOf("sensor 4 1 1 0 0 1;");
        y.subscribe(0, 4, 3);
        y.subscribe(0, 4, 0);
        y.subscribe(0, 4, 0);
        due("one wake", y.advance(4), 1);
        due("the first that is due is to blame", y.client(1, 8), 1);
        due("an earlier one that is not due", y.client(0, 8), 0);
        due("a later one", y.client(2, 8), 0);
        due("all entries are delivered", y.client(0, 5), 1);
        SensorHub z = hubOf("sensor 4 1 1 0 0 1;");
        z.subscribe(0, 4, 5);
        due("before the deadline", z.advance(8), 0);
        due("at the deadline", z.advance(1), 1);
        due("greatest age", z.client(0, 7), 5);
        due("delivered", z.client(0, 5), 2);
    }

    private static void flush() {
        CHECK.test("promise 12, flush");
        SensorHub x = clock();
        due("an empty store", x.flush(), ILLEGAL);
        dueStates(x, 1);
        x.subscribe(0, 1, 400);
        x.advance(4);
        due("four", x.flush(), 4);
        due("flush", x.wakes(3), 1);
        due("energy", x.count(6), 24);
        due("entries", x.count(4), 0);
        dueStates(x, 4);
        due("again", x.flush(), ILLEGAL);
        due("age", x.client(0, 7), 3);
    }

    private static void undo() {
        CHECK.test("promise 13, undo");
        SensorHub x = new SensorHub();
        due("nothing", x.undo(), ILLEGAL);
        x.addSensor(1, 1, 1, 0, 0, 1);
        x.subscribe(0, 1, 400);
        x.advance(3);
        x.flush();
        x.advance(2);
        dueStates(x, 5);
        x.setCapacity(5);
        dueStates(x, 5);
        write(x, "abc");
        x.load();
        x.advance(0);
        x.count(0);
        x.forecastWakes(10, 0);
        dueStates(x, 5);
        due("setCapacity undone", x.undo(), 4);
        due("capacity", x.count(5), 10);
        due("entries", x.count(4), 2);
        due("the text stays", x.count(9), 3);
        due("an entry", x.entry(1, 2), 5);
        due("advance undone", x.undo(), 3);
        due("now", x.count(0), 3);
        due("flush", x.wakes(3), 1);
        due("delivered", x.delivered(0, 0, 1), 3);
        due("flush undone", x.undo(), 2);
        due("flush", x.wakes(3), 0);
        due("delivered", x.delivered(0, 0, 1), NONE);
        due("energy", x.count(6), 3);
        due("entries", x.count(4), 3);
        due("advance undone", x.undo(), 1);
        due("subscribe undone", x.undo(), 0);
        due("clients", x.count(2), 0);
        due("the sixth was dropped", x.undo(), ILLEGAL);
        due("sensors", x.count(1), 1);
        undoGoesOn();
        undoOfManyEntries();
        undoBringsAllBack();
    }

    /** Each action, undone, leaves all answers as they were, and so do the actions done again. */
    private static void undoBringsAllBack() {
        SensorHub x = hubOf("sensor 2 3 7 1 1 3;sensor 3 2 13 500 2 2;mean 0 3;diff 0 1;outage 0 12 20;");
        x.subscribe(2, 5, 9);
        x.subscribe(3, 11, 30);
        for (int round = 0; round < 12; round++) {
            undoneAndDoneAgain(x, round);
        }
    }

    private static void undoOfManyEntries() {
        SensorHub x = clock();
        x.subscribe(0, 1, 400);
        x.setCapacity(30);
        x.advance(29);
        String before = allAnswers(x);
        x.unsubscribe(0);
        x.addSensor(2, 1, 9, 9, 1, 9);
        x.subscribe(1, 2, 300);
        x.advance(100);
        x.undo();
        x.undo();
        x.undo();
        due("undo", x.undo(), 1);
        CHECK.isTrue("all is as before", allAnswers(x).equals(before));
    }

    private static void undoneAndDoneAgain(SensorHub x, int round) {
        for (int action = 0; action < 9; action++) {
            String before = allAnswers(x);
            int answer = act(x, action, round);
            String after = allAnswers(x);
            // More time passes before the undo, so that what a state left out would not be as it was.
            if (answer >= 0) {
                x.advance(40);
                x.undo();
                CHECK.isTrue("all is as after the action " + action, allAnswers(x).equals(after));
                x.undo();
                CHECK.isTrue("all is as before the action " + action, allAnswers(x).equals(before));
                due("the action " + action + " again", act(x, action, round), answer);
                CHECK.isTrue("all is as after the action again " + action, allAnswers(x).equals(after));
            }
        }
    }

    private static int act(SensorHub x, int action, int round) {
        switch (action) {
            case 0: return x.advance(7 + round);
            case 1: return x.unsubscribe(round % 3);
            case 2: return x.subscribe(round % 4, 6 + round, 3 * round);
            case 3: return x.advance(20);
            case 4: return x.flush();
            case 5: return x.addOutage(round % 2, x.count(0), x.count(0) + 8);
            case 6: return x.setCapacity(4 + round);
            case 7: return x.addSensor(5, 1, 1, 1, 1, 1);
            default: return x.addDerived(round % 4, 1, 2);
        }
    }

    /** All that can be looked at, but for the number of states. */
    private static String allAnswers(SensorHub x) {
        StringBuilder all = new StringBuilder();
        for (int what = 0; what <= 9; what++) {
            all.append(' ').append(what == 8 ? 0 : x.count(what)).append(' ').append(x.wakes(what));
            for (int number = 0; number < 8; number++) {
                all.append(' ').append(x.sensor(number, what)).append(' ').append(x.client(number, what));
            }
        }
        for (int part = 0; part < 3; part++) {
            for (int index = 0; index < 30; index++) {
                all.append(' ').append(x.entry(index, part));
            }
            for (int index = 0; index < 48; index++) {
                all.append(' ').append(x.delivered(index / 6, index % 6, part));
            }
        }
        all.append(' ').append(x.nextDeadline()).append(' ').append(x.forecastWakes(60, 0));
        return all.append(' ').append(x.smallestCapacity(60)).append(' ').append(x.tightestClient(60)).toString();
    }

    private static void undoGoesOn() {
        SensorHub x = clock();
        x.subscribe(0, 2, 400);
        x.advance(3);
        x.undo();
        x.advance(1);
        due("samples", x.sensor(0, 3), 0);
        x.advance(1);
        due("samples", x.sensor(0, 3), 1);
        dueStates(x, 4);
        due("undo is no action", x.undo(), 3);
        due("undo", x.undo(), 2);
        due("now", x.count(0), 0);
        x.addOutage(0, 0, 5);
        due("outages", x.count(3), 1);
        x.undo();
        due("outages", x.count(3), 0);
        x.unsubscribe(0);
        due("clients", x.count(2), 0);
        x.undo();
        due("clients", x.count(2), 1);
        due("its P", x.client(0, 1), 2);
    }

    private static void count() {
        CHECK.test("promise 14, count");
        SensorHub x = hubOf("sensor 2 1 1 0 0 3;sum 0 0;outage 0 1 1;");
        x.setCapacity(12);
        x.advance(5);
        x.subscribe(1, 2, 400);
        x.advance(6);
        write(x, "ab");
        int[] counts = {11, 2, 1, 1, 3, 12, 9, 5, 5, 2};
        for (int what = 0; what <= 9; what++) {
            due("count(" + what + ")", x.count(what), counts[what]);
        }
        due("count(-1)", x.count(-1), INVALID);
        due("count(10)", x.count(10), INVALID);
    }

    private static void wakes() {
        CHECK.test("promise 15, wakes");
        SensorHub x = clock();
        x.subscribe(0, 1, 2);
        x.advance(3);
        due("deadline", x.wakes(0), 1);
        x.setCapacity(1);
        x.advance(3);
        due("full", x.wakes(1), 2);
        x.setCapacity(2);
        due("change", x.wakes(2), 1);
        x.advance(1);
        x.flush();
        due("flush", x.wakes(3), 1);
        due("deadline", x.wakes(0), 1);
        due("wakes(-1)", x.wakes(-1), INVALID);
        due("wakes(4)", x.wakes(4), INVALID);
    }

    private static void sensor() {
        CHECK.test("promise 16, sensor");
        SensorHub x = hubOf("sensor 2 1 1 0 0 3;sensor 3 2 4 5 0 1;diff 1 0;mean 2 2;");
        x.subscribe(3, 7, 400);
        int[] before = {1, 7, 6, 0, NONE, NONE, 1};
        int[] after = {1, 7, 6, 1, 6, 23, 1};
        for (int what = 0; what <= 6; what++) {
            due("sensor(2, " + what + ")", x.sensor(2, what), before[what]);
        }
        x.advance(6);
        for (int what = 0; what <= 6; what++) {
            due("sensor(2, " + what + ")", x.sensor(2, what), after[what]);
        }
        due("kind of the mean", x.sensor(3, 0), 3);
        due("kind of a physical one", x.sensor(0, 0), 4);
        due("source of a physical one", x.sensor(0, 6), 0);
        due("samples", x.sensor(0, 3), 3);
        due("sensor(4, 0)", x.sensor(4, 0), INVALID);
        due("sensor(-1, 0)", x.sensor(-1, 0), INVALID);
        due("sensor(0, -1)", x.sensor(0, -1), INVALID);
        due("sensor(0, 7)", x.sensor(0, 7), INVALID);
    }

    private static void client() {
        CHECK.test("promise 17, client");
        SensorHub x = hubOf("sensor 2 2 1 0 0 3;sensor 3 1 4 5 0 1;outage 1 6 6;");
        x.subscribe(0, 5, 30);
        x.subscribe(1, 8, 3);
        // Client 0 has entries at 4, 8, 12, ..; client 1 at 3, 9, .. (every second sample).
        int[] at5 = {1, 8, 3, 2, 1, 0, 0, NONE, 0};
        x.advance(5);
        dueClient(x, 1, at5);
        x.advance(1);
        dueClient(x, 1, new int[] {1, 8, 3, 2, 0, 1, 0, 3, 1});
        dueClient(x, 0, new int[] {0, 5, 30, 1, 0, 1, 0, 2, 0});
        x.addOutage(1, 9, 9);
        x.advance(4);
        due("in the store", x.client(1, 4), 1);
        x.subscribe(0, 9, 400);
        x.undo();
        due("in the store", x.client(1, 4), 1);
        x.advance(2);
        dueClient(x, 1, new int[] {1, 8, 3, 2, 0, 2, 1, 3, 2});
        dueClient(x, 0, new int[] {0, 5, 30, 1, 0, 3, 0, 4, 0});
        due("client(2, 0)", x.client(2, 0), INVALID);
        due("client(-1, 0)", x.client(-1, 0), INVALID);
        due("client(8, 0)", x.client(8, 0), INVALID);
        due("client(0, -1)", x.client(0, -1), INVALID);
        due("client(0, 9)", x.client(0, 9), INVALID);
        entriesOfEach();
        stampsAfterNow();
    }

    private static void dueClient(SensorHub x, int client, int[] want) {
        for (int what = 0; what < want.length; what++) {
            due("client(" + client + ", " + what + ")", x.client(client, what), want[what]);
        }
    }

    private static void entriesOfEach() {
        SensorHub x = clock();
        x.subscribe(0, 1, 400);
        x.subscribe(0, 3, 400);
        x.advance(5);
        due("of the first", x.client(0, 4), 5);
        due("of the second", x.client(1, 4), 2);
    }

    /** After a first sample that is late, the next stamps can be greater than the times of receipt. */
    private static void stampsAfterNow() {
        SensorHub x = hubOf("sensor 1 1 0 0 0 1;sensor 10 1 0 0 1 1;");
        x.subscribe(1, 10, 0);
        // Received at 11 and 20, the second with the stamp 21 - 1.
        x.advance(20);
        due("stamp", x.delivered(0, 0, 0), 20);
        SensorHub y = hubOf("sensor 1 1 0 0 0 1;mean 0 1;mean 0 1;mean 0 1;sensor 8 1 0 0 4 1;");
        y.subscribe(4, 8, 0);
        // Late by 4 and 1: received at 12 and 17, the second with the stamp 20 + floor(-3 / 4).
        y.advance(17);
        due("stamp after now", y.entry(0, 1), 19);
        due("deadline after now", y.nextDeadline(), 19);
        y.flush();
        due("age is at least 0", y.client(0, 7), 0);
        y.undo();
        y.undo();
        y.advance(13);
        y.subscribe(4, 8, 0);
        y.advance(4);
        due("its only entry's stamp is after now", y.entry(1, 1), 19);
        y.flush();
        due("age is at least 0", y.client(1, 7), 0);
    }

    private static void entry() {
        CHECK.test("promise 18, entry");
        SensorHub x = hubOf("sensor 2 1 3 0 0 3;outage 0 4 4;");
        x.subscribe(0, 2, 400);
        x.subscribe(0, 4, 400);
        x.advance(5);
        int[][] entries = {{0, 2, 6}, {1, 2, 6}, {0, 4, MISSING}};
        for (int index = 0; index < 3; index++) {
            for (int part = 0; part < 3; part++) {
                due("entry(" + index + ", " + part + ")", x.entry(index, part), entries[index][part]);
            }
        }
        due("entry(3, 0)", x.entry(3, 0), NONE);
        due("entry(30, 2)", x.entry(30, 2), NONE);
        due("entry(-1, 0)", x.entry(-1, 0), INVALID);
        due("entry(0, -1)", x.entry(0, -1), INVALID);
        due("entry(0, 3)", x.entry(0, 3), INVALID);
        due("entry(99, 3)", x.entry(99, 3), INVALID);
    }

    private static void delivered() {
        CHECK.test("promise 19, delivered");
        SensorHub x = hubOf("sensor 2 1 3 0 0 3;outage 0 6 6;");
        x.subscribe(0, 2, 4);
        x.advance(5);
        due("none yet", x.delivered(0, 0, 0), NONE);
        x.advance(1);
        int[][] latest = {{6, MISSING, 6}, {4, 12, 6}, {2, 6, 6}};
        for (int index = 0; index < 3; index++) {
            for (int part = 0; part < 3; part++) {
                due("delivered(0, " + index + ", " + part + ")", x.delivered(0, index, part), latest[index][part]);
            }
        }
        due("the fourth", x.delivered(0, 3, 0), NONE);
        x.advance(12);
        // Delivered by now: 2 to 18, in threes.
        int[] stamps = {18, 16, 14, 12, 10, 8};
        int[] times = {18, 18, 18, 12, 12, 12};
        for (int index = 0; index < 6; index++) {
            due("stamp " + index, x.delivered(0, index, 0), stamps[index]);
            due("value " + index, x.delivered(0, index, 1), 3 * stamps[index]);
            due("time " + index, x.delivered(0, index, 2), times[index]);
        }
        due("delivered(0, 6, 0)", x.delivered(0, 6, 0), INVALID);
        due("delivered(0, -1, 0)", x.delivered(0, -1, 0), INVALID);
        due("delivered(0, 0, 3)", x.delivered(0, 0, 3), INVALID);
        due("delivered(0, 0, -1)", x.delivered(0, 0, -1), INVALID);
        due("delivered(1, 0, 0)", x.delivered(1, 0, 0), INVALID);
        due("delivered(-1, 0, 0)", x.delivered(-1, 0, 0), INVALID);
    }

    private static void nextDeadline() {
        CHECK.test("promise 20, nextDeadline");
        SensorHub x = hubOf("sensor 2 1 3 0 0 3;");
        due("an empty store", x.nextDeadline(), NONE);
        x.subscribe(0, 2, 90);
        x.subscribe(0, 6, 40);
        x.subscribe(0, 10, 60);
        due("an empty store", x.nextDeadline(), NONE);
        x.advance(4);
        due("the second client's", x.nextDeadline(), 42);
        x.unsubscribe(1);
        due("an empty store", x.nextDeadline(), NONE);
        x.advance(2);
        due("the first client's", x.nextDeadline(), 96);
        x.advance(6);
        due("a later entry's", x.nextDeadline(), 72);
    }

    private static void forecastWakes() {
        CHECK.test("promise 21, forecastWakes");
        SensorHub x = clock();
        due("ticks 0", x.forecastWakes(0, 0), INVALID);
        due("ticks 501", x.forecastWakes(501, 0), INVALID);
        due("cause 2", x.forecastWakes(1, 2), INVALID);
        due("cause -1", x.forecastWakes(1, -1), INVALID);
        due("no client", x.forecastWakes(500, 0), 0);
        x.subscribe(0, 1, 4);
        x.advance(3);
        due("deadlines at 5, 10, ..", x.forecastWakes(7, 0), 2);
        due("one tick less", x.forecastWakes(6, 0), 1);
        due("two ticks", x.forecastWakes(2, 0), 1);
        due("one tick", x.forecastWakes(1, 0), 0);
        due("full", x.forecastWakes(500, 1), 0);
        x.setCapacity(2);
        due("full at 6, 8, ..", x.forecastWakes(500, 1), 249);
        due("deadlines", x.forecastWakes(500, 0), 0);
        due("now", x.count(0), 3);
        due("entries", x.count(4), 0);
        due("samples", x.sensor(0, 3), 3);
        due("energy", x.count(6), 23);
        dueStates(x, 4);
        for (int i = 0; i < 19; i++) {
            x.advance(500);
        }
        x.advance(496);
        due("now", x.count(0), 9999);
        due("beyond the greatest time", x.forecastWakes(500, 1), 250);
    }

    private static void smallestCapacity() {
        CHECK.test("promise 22, smallestCapacity");
        SensorHub x = clock();
        due("ticks 0", x.smallestCapacity(0), INVALID);
        due("ticks 501", x.smallestCapacity(501), INVALID);
        due("no client", x.smallestCapacity(500), 1);
        x.subscribe(0, 1, 29);
        due("entries of 30 ticks", x.smallestCapacity(500), 30);
        due("of 12 ticks", x.smallestCapacity(12), 12);
        due("of 1 tick", x.smallestCapacity(1), 1);
        x.advance(5);
        due("with five in the store", x.smallestCapacity(1), 6);
        due("capacity", x.count(5), 10);
        due("entries", x.count(4), 5);
        dueStates(x, 3);
        x.unsubscribe(0);
        x.subscribe(0, 1, 30);
        due("31 entries", x.smallestCapacity(500), NONE);
        due("30 entries", x.smallestCapacity(30), 30);
        x.unsubscribe(0);
        x.subscribe(0, 400, 400);
        x.advance(1);
        due("no new entry", x.smallestCapacity(10), 1);
        x.unsubscribe(0);
        x.subscribe(0, 1, 0);
        due("delivered at once", x.smallestCapacity(500), 1);
        x.subscribe(0, 1, 0);
        due("two at once", x.smallestCapacity(500), 2);
    }

    private static void tightestClient() {
        CHECK.test("promise 23, tightestClient");
        SensorHub x = clock();
        due("ticks 0", x.tightestClient(0), INVALID);
        due("ticks 501", x.tightestClient(501), INVALID);
        due("no client", x.tightestClient(500), NONE);
        x.setCapacity(30);
        x.subscribe(0, 100, 400);
        due("the greatest delay", x.tightestClient(500), NONE);
        x.subscribe(0, 100, 50);
        due("the only one that wakes", x.tightestClient(500), 1);
        x.subscribe(0, 50, 3);
        due("the one that wakes more often", x.tightestClient(500), 2);
        due("delay", x.client(2, 2), 3);
        dueStates(x, 5);
        SensorHub y = clock();
        y.subscribe(0, 8, 0);
        y.subscribe(0, 8, 0);
        due("two that wake together", y.tightestClient(100), NONE);
        twoThatWakeInTurn();
        entriesInTheStore();
        fullWakesCount();
    }

    private static void twoThatWakeInTurn() {
        // The clients 1 and 2 have entries at 1, 17, .. and at 9, 25, ..
        SensorHub x = clock();
        x.setCapacity(30);
        x.subscribe(0, 1, 400);
        x.subscribe(0, 16, 1);
        x.advance(8);
        x.subscribe(0, 16, 1);
        due("wakes", x.forecastWakes(64, 0), 8);
        due("of two the smaller one", x.tightestClient(64), 1);
        due("the only one that wakes so soon", x.tightestClient(3), 2);
        due("no wakes in one tick", x.tightestClient(1), NONE);
    }

    /** The delay counts for the entries that are in the store already, too. */
    private static void entriesInTheStore() {
        SensorHub x = clock();
        x.subscribe(0, 16, 20);
        x.advance(17);
        due("entries", x.count(4), 1);
        due("its deadline is near", x.nextDeadline(), 36);
        due("tightest", x.tightestClient(19), 0);
        due("before the deadline", x.tightestClient(18), NONE);
    }

    /** With a store for one entry, a greater delay only turns deadlines into full stores. */
    private static void fullWakesCount() {
        SensorHub x = clock();
        x.setCapacity(1);
        x.subscribe(0, 1, 0);
        due("deadlines", x.forecastWakes(10, 0), 10);
        due("one wake less", x.tightestClient(10), 0);
        x.unsubscribe(0);
        x.advance(1);
        x.subscribe(0, 1, 1);
        due("full at 3, 4, ..", x.forecastWakes(10, 1), 9);
        due("no wake less", x.tightestClient(10), NONE);
    }

    private static void extremeArguments() {
        CHECK.test("extreme arguments");
        SensorHub x = clock();
        x.subscribe(0, 1, 5);
        x.advance(3);
        int[] extremes = {Integer.MIN_VALUE, Integer.MIN_VALUE + 1, Integer.MAX_VALUE - 1, Integer.MAX_VALUE};
        for (int e : extremes) {
            due("addSensor", x.addSensor(e, e, e, e, e, e), INVALID);
            due("addDerived", x.addDerived(e, e, e), INVALID);
            due("addDerived", x.addDerived(3, 0, e), INVALID);
            due("addOutage", x.addOutage(e, e, e), INVALID);
            due("addOutage", x.addOutage(0, e, e), INVALID);
            due("subscribe", x.subscribe(e, e, e), INVALID);
            due("subscribe", x.subscribe(0, e, 0), INVALID);
            due("unsubscribe", x.unsubscribe(e), INVALID);
            due("setCapacity", x.setCapacity(e), INVALID);
            due("append", x.append(e), INVALID);
            due("advance", x.advance(e), INVALID);
            due("count", x.count(e), INVALID);
            due("wakes", x.wakes(e), INVALID);
            due("sensor", x.sensor(e, e), INVALID);
            due("client", x.client(e, e), INVALID);
            due("entry", x.entry(e, e), INVALID);
            due("entry", x.entry(e, 0), e < 0 ? INVALID : NONE);
            due("delivered", x.delivered(e, e, e), INVALID);
            due("delivered", x.delivered(0, e, 0), INVALID);
            due("forecastWakes", x.forecastWakes(e, e), INVALID);
            due("smallestCapacity", x.smallestCapacity(e), INVALID);
            due("tightestClient", x.tightestClient(e), INVALID);
        }
        dueStates(x, 3);
    }
}
