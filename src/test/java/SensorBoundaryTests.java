/**
 * The boundary cases of the section "Sensors" and of the promises 1 to 4. Each
 * test's name tells where its sentence stands, and the sentence.
 */
public final class SensorBoundaryTests {
    private static final Check CHECK = new Check("SensorBoundaryTests");

    public static void main(String[] args) {
        nowIsZero();
        emptyHub();
        leastPeriod();
        steps();
        slope();
        offset();
        jitter();
        jitterLessThanPeriod();
        cost();
        supportedPeriods();
        valueWrapsAround();
        eightSensors();
        eightSensorsOfBothSorts();
        roomAgainAfterUndo();
        kinds();
        smallerNumbers();
        sameInputTwice();
        meanHasOneInput();
        lengthOfAMean();
        sourceByFirstInputs();
        fourOutages();
        outageOfAPhysicalSensor();
        firstOfAnOutage();
        lastOfAnOutage();
        bothIncluded();
        outageAtTheEndOfTime();
        outageOfOneSensor();
        CHECK.finish();
    }

    private static void due(String call, int got, int want) {
        CHECK.due(call, got, want);
    }

    private static void nowIsZero() {
        CHECK.test("Sensors: \"now is 0 at first\"");
        SensorHub x = new SensorHub();
        due("now", x.count(0), 0);
        x.advance(1);
        due("now after a tick", x.count(0), 1);
        due("now of another one", new SensorHub().count(0), 0);
    }

    private static void emptyHub() {
        CHECK.test("promise 1: \"a hub without sensors and clients, with an empty store and an empty text\"");
        SensorHub x = new SensorHub();
        due("sensors", x.count(1), 0);
        due("clients", x.count(2), 0);
        due("outages", x.count(3), 0);
        due("entries", x.count(4), 0);
        due("text", x.count(9), 0);
        due("sensor 0", x.sensor(0, 0), Hubs.INVALID);
        due("client 0", x.client(0, 0), Hubs.INVALID);
        due("entry 0", x.entry(0, 0), Hubs.NONE);
        due("next deadline", x.nextDeadline(), Hubs.NONE);
        due("ticks without sensors", x.advance(500), 0);
        due("energy", x.count(6), 0);
    }

    private static void leastPeriod() {
        CHECK.test("promise 2: \"q: least period, 1 to 20\"");
        SensorHub x = new SensorHub();
        due("0", x.addSensor(0, 1, 0, 0, 0, 1), Hubs.INVALID);
        due("21", x.addSensor(21, 1, 0, 0, 0, 1), Hubs.INVALID);
        due("-1", x.addSensor(-1, 1, 0, 0, 0, 1), Hubs.INVALID);
        due("1", x.addSensor(1, 1, 0, 0, 0, 1), 0);
        due("20", x.addSensor(20, 1, 0, 0, 0, 1), 1);
        x.subscribe(0, 1, 400);
        x.subscribe(1, 20, 400);
        due("period of the first", x.sensor(0, 2), 1);
        due("period of the second", x.sensor(1, 2), 20);
        x.advance(20);
        due("samples of the first", x.sensor(0, 3), 20);
        due("samples of the second", x.sensor(1, 3), 1);
    }

    private static void steps() {
        CHECK.test("promise 2: \"steps: 1 to 5\"");
        SensorHub x = new SensorHub();
        due("0", x.addSensor(2, 0, 0, 0, 0, 1), Hubs.INVALID);
        due("6", x.addSensor(2, 6, 0, 0, 0, 1), Hubs.INVALID);
        due("1", x.addSensor(2, 1, 0, 0, 0, 1), 0);
        due("5", x.addSensor(2, 5, 0, 0, 0, 1), 1);
        x.subscribe(0, 400, 0);
        x.subscribe(1, 400, 0);
        due("period with one step", x.sensor(0, 2), 2);
        due("period with five steps", x.sensor(1, 2), 32);
    }

    private static void slope() {
        CHECK.test("promise 2: \"slope: 0 to 99\"");
        SensorHub x = new SensorHub();
        due("-1", x.addSensor(2, 1, -1, 0, 0, 1), Hubs.INVALID);
        due("100", x.addSensor(2, 1, 100, 0, 0, 1), Hubs.INVALID);
        due("0", x.addSensor(2, 1, 0, 7, 0, 1), 0);
        due("99", x.addSensor(2, 1, 99, 7, 0, 1), 1);
        x.subscribe(0, 2, 400);
        x.subscribe(1, 2, 400);
        x.advance(4);
        due("value with the slope 0", x.sensor(0, 5), 7);
        due("value with the slope 99", x.sensor(1, 5), 403);
    }

    private static void offset() {
        CHECK.test("promise 2: \"offset: 0 to 999\"");
        SensorHub x = new SensorHub();
        due("-1", x.addSensor(2, 1, 0, -1, 0, 1), Hubs.INVALID);
        due("1000", x.addSensor(2, 1, 0, 1000, 0, 1), Hubs.INVALID);
        due("0", x.addSensor(2, 1, 0, 0, 0, 1), 0);
        due("999", x.addSensor(2, 1, 0, 999, 0, 1), 1);
        x.subscribe(0, 2, 400);
        x.subscribe(1, 2, 400);
        x.advance(2);
        due("value with the offset 0", x.sensor(0, 5), 0);
        due("value with the offset 999", x.sensor(1, 5), 999);
    }

    private static void jitter() {
        CHECK.test("promise 2: \"jitter: 0 to 9\"");
        SensorHub x = new SensorHub();
        due("-1", x.addSensor(20, 1, 0, 0, -1, 1), Hubs.INVALID);
        due("10", x.addSensor(20, 1, 0, 0, 10, 1), Hubs.INVALID);
        due("19", x.addSensor(20, 1, 0, 0, 19, 1), Hubs.INVALID);
        due("0", x.addSensor(20, 1, 0, 0, 0, 1), 0);
        due("9", x.addSensor(20, 1, 0, 0, 9, 1), 1);
        // The sensor 1 receives its samples 0 and 1 later by 1 and by 8 of at most 9.
        x.subscribe(0, 20, 400);
        x.subscribe(1, 20, 400);
        x.advance(47);
        due("samples with the jitter 0", x.sensor(0, 3), 2);
        due("samples with the jitter 9", x.sensor(1, 3), 1);
        x.advance(1);
        due("samples with the jitter 9", x.sensor(1, 3), 2);
    }

    private static void jitterLessThanPeriod() {
        CHECK.test("promise 2: \"jitter: .. less than q\"");
        SensorHub x = new SensorHub();
        due("1 of 1", x.addSensor(1, 5, 0, 0, 1, 1), Hubs.INVALID);
        due("9 of 9", x.addSensor(9, 5, 0, 0, 9, 1), Hubs.INVALID);
        due("4 of 4", x.addSensor(4, 5, 0, 0, 4, 1), Hubs.INVALID);
        due("5 of 4", x.addSensor(4, 5, 0, 0, 5, 1), Hubs.INVALID);
        due("0 of 1", x.addSensor(1, 5, 0, 0, 0, 1), 0);
        due("8 of 9", x.addSensor(9, 5, 0, 0, 8, 1), 1);
        due("9 of 10", x.addSensor(10, 5, 0, 0, 9, 1), 2);
        due("3 of 4", x.addSensor(4, 5, 0, 0, 3, 1), 3);
    }

    private static void cost() {
        CHECK.test("promise 2: \"cost: 1 to 50\"");
        SensorHub x = new SensorHub();
        due("0", x.addSensor(2, 1, 0, 0, 0, 0), Hubs.INVALID);
        due("51", x.addSensor(2, 1, 0, 0, 0, 51), Hubs.INVALID);
        due("1", x.addSensor(2, 1, 0, 0, 0, 1), 0);
        due("50", x.addSensor(2, 1, 0, 0, 0, 50), 1);
        x.subscribe(0, 2, 400);
        x.advance(2);
        due("energy of a sample of the cost 1", x.count(6), 1);
        // The wake of this subscription takes 20.
        x.subscribe(1, 2, 400);
        x.unsubscribe(0);
        x.advance(2);
        due("energy of a sample of the cost 50", x.count(6), 1 + 20 + 50);
    }

    private static void supportedPeriods() {
        CHECK.test("Sensors: \"It supports the periods q, 2 * q, 4 * q and so on, as many as its steps\"");
        int[][] periods = {{3, 3}, {4, 3}, {5, 3}, {6, 6}, {7, 6}, {11, 6}, {12, 12}, {13, 12}, {23, 12}, {24, 12},
            {400, 12}};
        for (int[] period : periods) {
            SensorHub x = Hubs.of("sensor 3 3 0 0 0 1;");
            x.subscribe(0, period[0], 0);
            due("period for the demand " + period[0], x.sensor(0, 2), period[1]);
        }
        int[][] longest = {{319, 160}, {320, 320}, {400, 320}};
        for (int[] period : longest) {
            SensorHub x = Hubs.of("sensor 20 5 0 0 0 1;");
            x.subscribe(0, period[0], 0);
            due("period for the demand " + period[0], x.sensor(0, 2), period[1]);
        }
    }

    private static void valueWrapsAround() {
        CHECK.test("Sensors: \"Its value at a time T is (slope * T + offset) modulo 1000\"");
        SensorHub x = Hubs.of("sensor 1 1 1 997 0 1;");
        x.subscribe(0, 1, 400);
        int[] values = {998, 999, 0, 1};
        for (int value : values) {
            x.advance(1);
            due("value at " + x.count(0), x.sensor(0, 5), value);
        }
        SensorHub y = Hubs.of("sensor 20 1 99 999 0 1;");
        y.subscribe(0, 20, 400);
        Hubs.advanceTo(y, 9980);
        due("99 * 9980 + 999 = 989019", y.sensor(0, 5), 19);
    }

    private static void eightSensors() {
        CHECK.test("Sensors: \"There are at most 8 sensors, numbered from 0\"");
        SensorHub x = new SensorHub();
        for (int number = 0; number < 8; number++) {
            due("sensors", x.count(1), number);
            due("addSensor", x.addSensor(1 + number, 1, 0, 0, 0, 1), number);
        }
        due("a ninth", x.addSensor(1, 1, 0, 0, 0, 1), Hubs.NO_ROOM);
        due("sensors", x.count(1), 8);
        due("the last one", x.sensor(7, 0), 4);
        due("none behind it", x.sensor(8, 0), Hubs.INVALID);
        due("the last one's least period", x.subscribe(7, 7, 0), Hubs.ILLEGAL);
        due("the last one's least period", x.subscribe(7, 8, 0), 0);
    }

    private static void eightSensorsOfBothSorts() {
        CHECK.test("promise 3: \"CAPACITY_EXCEEDED if there are 8 sensors\"");
        SensorHub x = Hubs.clock();
        for (int number = 1; number < 8; number++) {
            due("addDerived", x.addDerived(number % 4, number - 1, number % 4 == 3 ? 1 : 0), number);
        }
        for (int kind = 0; kind < 4; kind++) {
            due("a ninth of the kind " + kind, x.addDerived(kind, 7, 1), Hubs.NO_ROOM);
        }
        due("a physical ninth", x.addSensor(1, 1, 0, 0, 0, 1), Hubs.NO_ROOM);
        due("sensors", x.count(1), 8);
        x.subscribe(7, 1, 0);
        x.advance(1);
        due("the last one receives", x.sensor(7, 3), 1);
    }

    private static void roomAgainAfterUndo() {
        CHECK.test("promises 2 and 13: no room, undone, is room again");
        SensorHub x = Hubs.of("sensor 1 1 0 0 0 1;sum 0 0;sum 0 0;sum 0 0;sum 0 0;sum 0 0;sum 0 0;");
        due("the eighth", x.addDerived(3, 6, 8), 7);
        due("a ninth", x.addSensor(2, 1, 0, 0, 0, 1), Hubs.NO_ROOM);
        x.undo();
        due("the eighth again", x.addSensor(2, 1, 0, 0, 0, 1), 7);
        due("its kind", x.sensor(7, 0), 4);
        due("its source", x.sensor(7, 6), 7);
    }

    private static void kinds() {
        CHECK.test("promise 3: \"kind: 0 sum, 1 difference, 2 greater, 3 mean\"");
        SensorHub x = Hubs.clock();
        due("-1", x.addDerived(-1, 0, 0), Hubs.INVALID);
        due("4", x.addDerived(4, 0, 0), Hubs.INVALID);
        due("4 with a length", x.addDerived(4, 0, 1), Hubs.INVALID);
        for (int kind = 0; kind < 4; kind++) {
            due("addDerived", x.addDerived(kind, 0, kind == 3 ? 2 : 0), kind + 1);
            due("its kind", x.sensor(kind + 1, 0), kind);
            x.subscribe(kind + 1, 1, 400);
        }
        x.advance(5);
        int[] values = {10, 0, 5, 4};
        for (int kind = 0; kind < 4; kind++) {
            due("value of the kind " + kind, x.sensor(kind + 1, 5), values[kind]);
        }
    }

    private static void smallerNumbers() {
        CHECK.test("Sensors: \"inputs, which are sensors with smaller numbers\"");
        SensorHub x = new SensorHub();
        for (int kind = 0; kind < 4; kind++) {
            due("itself, of no sensors", x.addDerived(kind, 0, 1), Hubs.INVALID);
        }
        x.addSensor(1, 1, 0, 0, 0, 1);
        x.addSensor(1, 1, 0, 0, 0, 1);
        for (int kind = 0; kind < 4; kind++) {
            due("itself as first", x.addDerived(kind, 2, 1), Hubs.INVALID);
            due("a later one as first", x.addDerived(kind, 3, 1), Hubs.INVALID);
            due("-1 as first", x.addDerived(kind, -1, 1), Hubs.INVALID);
        }
        for (int kind = 0; kind < 3; kind++) {
            due("itself as second", x.addDerived(kind, 1, 2), Hubs.INVALID);
            due("-1 as second", x.addDerived(kind, 1, -1), Hubs.INVALID);
        }
        due("the one before", x.addDerived(0, 1, 0), 2);
        due("the one before as second", x.addDerived(0, 0, 2), 3);
    }

    private static void sameInputTwice() {
        CHECK.test("Sensors: \"a first and a second input, possibly the same\"");
        SensorHub x = Hubs.of("sensor 1 1 0 600 0 1;");
        for (int kind = 0; kind < 3; kind++) {
            due("addDerived", x.addDerived(kind, 0, 0), kind + 1);
            x.subscribe(kind + 1, 1, 400);
        }
        x.advance(1);
        due("sum", x.sensor(1, 5), 200);
        due("difference", x.sensor(2, 5), 0);
        due("greater", x.sensor(3, 5), 600);
    }

    private static void meanHasOneInput() {
        CHECK.test("Sensors: \"for the kind 3 (mean) one input and a length\": the length names no sensor");
        SensorHub x = Hubs.of("sensor 1 1 0 0 0 1;sensor 5 1 0 0 0 1;");
        due("a length without a sensor of that number", x.addDerived(3, 0, 8), 2);
        due("a length that is also a sensor's number", x.addDerived(3, 0, 1), 3);
        due("period 1, less than that sensor's", x.subscribe(3, 1, 0), 0);
        due("no demand on that sensor", x.sensor(1, 1), Hubs.NONE);
        due("the demand on the input", x.sensor(0, 1), 1);
    }

    private static void lengthOfAMean() {
        CHECK.test("promise 3: \"for the mean its length, 1 to 8\"");
        SensorHub x = Hubs.clock();
        due("0", x.addDerived(3, 0, 0), Hubs.INVALID);
        due("-1", x.addDerived(3, 0, -1), Hubs.INVALID);
        due("9", x.addDerived(3, 0, 9), Hubs.INVALID);
        due("1", x.addDerived(3, 0, 1), 1);
        due("8", x.addDerived(3, 0, 8), 2);
        x.subscribe(1, 1, 400);
        x.subscribe(2, 1, 400);
        x.advance(20);
        due("mean of 20", x.sensor(1, 5), 20);
        due("mean of 13 to 20, 16.5", x.sensor(2, 5), 16);
    }

    private static void sourceByFirstInputs() {
        CHECK.test("Sensors: \"going from a sensor to its first input again and again\"");
        SensorHub x = Hubs.of("sensor 1 1 0 0 0 1;sensor 2 1 0 0 0 1;sum 1 0;sum 2 0;sum 3 0;mean 4 1;sum 5 0;max 0 6;");
        int[] sources = {0, 1, 1, 1, 1, 1, 1, 0};
        for (int number = 0; number < 8; number++) {
            due("source of " + number, x.sensor(number, 6), sources[number]);
        }
        x.subscribe(7, 2, 400);
        int[] periods = {1, 2, 2, 2, 2, 2, 2, 1};
        for (int number = 0; number < 8; number++) {
            due("period of " + number, x.sensor(number, 2), periods[number]);
        }
    }

    private static void fourOutages() {
        CHECK.test("Sensors: \"There are at most 4 outages\"; promise 4: \"CAPACITY_EXCEEDED if there are 4\"");
        SensorHub x = Hubs.of("sensor 1 1 1 0 0 1;sensor 1 1 1 0 0 1;");
        for (int outage = 1; outage <= 4; outage++) {
            due("addOutage", x.addOutage(outage % 2, 2 * outage, 2 * outage), outage);
        }
        due("a fifth", x.addOutage(0, 1, 1), Hubs.NO_ROOM);
        due("a fifth of the other sensor", x.addOutage(1, 1, 1), Hubs.NO_ROOM);
        due("outages", x.count(3), 4);
        x.subscribe(0, 1, 400);
        x.subscribe(1, 1, 400);
        int[] first = {1, 2, 3, Hubs.MISSING, 5, 6, 7, Hubs.MISSING, 9};
        int[] second = {1, Hubs.MISSING, 3, 4, 5, Hubs.MISSING, 7, 8, 9};
        for (int i = 0; i < first.length; i++) {
            x.advance(1);
            due("first value at " + x.count(0), x.sensor(0, 5), first[i]);
            due("second value at " + x.count(0), x.sensor(1, 5), second[i]);
        }
    }

    private static void outageOfAPhysicalSensor() {
        CHECK.test("promise 4: \"INVALID_ARGUMENT if there is no such physical sensor\"");
        SensorHub x = Hubs.of("sensor 1 1 1 0 0 1;sum 0 0;mean 1 1;sensor 1 1 1 0 0 1;");
        due("-1", x.addOutage(-1, 0, 9), Hubs.INVALID);
        due("a sum", x.addOutage(1, 0, 9), Hubs.INVALID);
        due("a mean", x.addOutage(2, 0, 9), Hubs.INVALID);
        due("4", x.addOutage(4, 0, 9), Hubs.INVALID);
        due("in a hub without sensors", new SensorHub().addOutage(0, 0, 9), Hubs.INVALID);
        due("outages", x.count(3), 0);
        due("the last physical one", x.addOutage(3, 0, 9), 1);
        due("the first physical one", x.addOutage(0, 0, 9), 2);
    }

    private static void firstOfAnOutage() {
        CHECK.test("promise 4: \"first: 0 to 9999\"");
        SensorHub x = Hubs.clock();
        due("-1", x.addOutage(0, -1, 0), Hubs.INVALID);
        due("10000", x.addOutage(0, 10000, 10000), Hubs.INVALID);
        due("0", x.addOutage(0, 0, 1), 1);
        due("9999", x.addOutage(0, 9999, 9999), 2);
        x.subscribe(0, 1, 400);
        x.advance(1);
        due("value at 1", x.sensor(0, 5), Hubs.MISSING);
        x.advance(1);
        due("value at 2", x.sensor(0, 5), 2);
    }

    private static void lastOfAnOutage() {
        CHECK.test("promise 4: \"last: first to 9999\"");
        SensorHub x = Hubs.clock();
        due("one before the first", x.addOutage(0, 5, 4), Hubs.INVALID);
        due("-1", x.addOutage(0, 0, -1), Hubs.INVALID);
        due("10000", x.addOutage(0, 5, 10000), Hubs.INVALID);
        due("the first", x.addOutage(0, 5, 5), 1);
        due("9999", x.addOutage(0, 8, 9999), 2);
        due("0 to 0", x.addOutage(0, 0, 0), 3);
        x.subscribe(0, 1, 400);
        int[] values = {1, 2, 3, 4, Hubs.MISSING, 6, 7, Hubs.MISSING, Hubs.MISSING};
        for (int value : values) {
            x.advance(1);
            due("value at " + x.count(0), x.sensor(0, 5), value);
        }
    }

    private static void bothIncluded() {
        CHECK.test("Sensors: \"lasts from a first to a last time (both included)\"");
        SensorHub x = Hubs.of("sensor 1 1 1 0 0 1;outage 0 3 5;");
        x.subscribe(0, 1, 400);
        int[] values = {1, 2, Hubs.MISSING, Hubs.MISSING, Hubs.MISSING, 6};
        for (int value : values) {
            x.advance(1);
            due("value at " + x.count(0), x.sensor(0, 5), value);
        }
    }

    private static void outageAtTheEndOfTime() {
        CHECK.test("promise 4: an outage from 9999 to 9999, \"both included\"");
        SensorHub x = Hubs.clock();
        x.addOutage(0, 9999, 9999);
        x.subscribe(0, 1, 400);
        Hubs.advanceTo(x, 9998);
        due("value at 9998", x.sensor(0, 5), 998);
        x.advance(1);
        due("value at 9999", x.sensor(0, 5), Hubs.MISSING);
        due("stamp at 9999", x.sensor(0, 4), 9999);
    }

    private static void outageOfOneSensor() {
        CHECK.test("Sensors: \"an outage belongs to a physical sensor\": the others go on");
        SensorHub x = Hubs.of("sensor 1 1 1 0 0 1;sensor 1 1 1 100 0 1;sensor 1 1 1 200 0 1;outage 1 0 9999;");
        for (int number = 0; number < 3; number++) {
            x.subscribe(number, 1, 400);
        }
        x.advance(7);
        due("before it", x.sensor(0, 5), 7);
        due("its own", x.sensor(1, 5), Hubs.MISSING);
        due("behind it", x.sensor(2, 5), 207);
    }
}
