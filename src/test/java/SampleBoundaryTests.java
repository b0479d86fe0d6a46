/**
 * The boundary cases of the section "Samples", and which samples a client takes.
 * Each test's name tells where its sentence stands, and the sentence.
 */
public final class SampleBoundaryTests {
    /** Seven sensors, so that the next one has the number 7. */
    private static final String SEVEN = "sensor 1 1 0 0 0 1;sum 0 0;sum 0 0;sum 0 0;sum 0 0;sum 0 0;sum 0 0;";

    private static final Check CHECK = new Check("SampleBoundaryTests");

    public static void main(String[] args) {
        firstSample();
        samplesAfterARestart();
        noJitter();
        jitterWrapsAround();
        jitterOfTheSensorsNumber();
        outageAtTheTimeOfTheSample();
        outageThatCameLater();
        outageThatIsGone();
        missingSamplesCount();
        stampOfTheFirstSample();
        stampsRoundedDown();
        valueOfTheTimeNotOfTheReceipt();
        derivedWithTheFirstInput();
        derivedNotWithTheSecondInput();
        derivedThatIsOff();
        derivedStamp();
        secondInputOfTheSameTick();
        secondInputOfAnEarlierTick();
        secondInputWithoutASample();
        secondInputAfterARestart();
        secondInputThatWasOff();
        oneInputMissing();
        sumWrapsAround();
        differenceWrapsAround();
        greaterOfTheTwo();
        meanOfFewer();
        meanOfAsManyAsTheLength();
        meanRoundedDown();
        meanOfZeros();
        meanWithMissingSamples();
        meanOfMissingSamplesOnly();
        meanOfADerivedSensor();
        meanSinceTheRestart();
        meanFromBeforeItWasOn();
        firstSampleIsTaken();
        firstSampleSinceAClientCame();
        everyKthSample();
        kRoundedDown();
        missingSamplesAreTaken();
        takenAgainAfterARestart();
        CHECK.finish();
    }

    private static void due(String call, int got, int want) {
        CHECK.due(call, got, want);
    }

    /** Advances to each of these times, and looks for this property of the sensor then. */
    private static void dueAt(SensorHub x, int sensor, int what, int[][] timesAndAnswers) {
        for (int[] pair : timesAndAnswers) {
            Hubs.advanceTo(x, pair[0]);
            due("sensor(" + sensor + ", " + what + ") at " + pair[0], x.sensor(sensor, what), pair[1]);
        }
    }

    private static void firstSample() {
        CHECK.test("Samples: \"Its sample i, for i = 0, 1, 2 .. belongs to the time T = R + (i + 1) * p\"");
        SensorHub x = Hubs.of("sensor 5 2 1 0 0 1;");
        x.subscribe(0, 10, 400);
        dueAt(x, 0, 3, new int[][] {{1, 0}, {9, 0}, {10, 1}, {11, 1}, {19, 1}, {20, 2}});
        due("value", x.sensor(0, 5), 20);
    }

    private static void samplesAfterARestart() {
        CHECK.test("Samples: \"R the time of the last restart\"");
        SensorHub x = Hubs.of("sensor 5 2 1 0 0 1;");
        x.advance(7);
        x.subscribe(0, 10, 400);
        dueAt(x, 0, 3, new int[][] {{10, 0}, {16, 0}, {17, 1}});
        x.subscribe(0, 5, 400);
        due("restart", x.count(7), 17);
        dueAt(x, 0, 5, new int[][] {{21, Hubs.NONE}, {22, 22}, {26, 22}, {27, 27}});
    }

    private static void noJitter() {
        CHECK.test("Samples: \"modulo (jitter + 1)\": with the jitter 0 none is late");
        SensorHub x = Hubs.of(SEVEN + "sensor 3 1 1 0 0 1;");
        x.subscribe(7, 3, 400);
        dueAt(x, 7, 3, new int[][] {{2, 0}, {3, 1}, {5, 1}, {6, 2}, {8, 2}, {9, 3}, {30, 10}});
    }

    private static void jitterWrapsAround() {
        CHECK.test("Samples: \"j is (7 * i + number of the sensor) modulo (jitter + 1)\": late by 0, 3, 2, 1, 0, 3");
        SensorHub x = Hubs.of("sensor 4 1 1 0 3 1;");
        x.subscribe(0, 4, 400);
        dueAt(x, 0, 3, new int[][] {{3, 0}, {4, 1}, {10, 1}, {11, 2}, {13, 2}, {14, 3}, {16, 3}, {17, 4}, {19, 4},
            {20, 5}, {26, 5}, {27, 6}});
    }

    private static void jitterOfTheSensorsNumber() {
        CHECK.test("Samples: \"j is (7 * i + number of the sensor)\": the number 7 is late by 1, 2, 0 of the jitter 2");
        SensorHub x = Hubs.of(SEVEN + "sensor 3 1 1 0 2 1;");
        x.subscribe(7, 3, 400);
        dueAt(x, 7, 3, new int[][] {{3, 0}, {4, 1}, {7, 1}, {8, 2}, {9, 3}, {12, 3}, {13, 4}});
    }

    private static void outageAtTheTimeOfTheSample() {
        CHECK.test("Samples: \"It is missing if T is in an outage of the sensor\": T, not the time of receipt");
        // The sensor 1 receives its sample of 4 at 5, that of 8 at 8, that of 12 at 15, and that of 16 at 18.
        SensorHub x = Hubs.of("sensor 1 1 0 0 0 1;sensor 4 1 1 0 3 1;outage 1 5 5;outage 1 12 12;");
        x.subscribe(1, 4, 400);
        dueAt(x, 1, 5, new int[][] {{5, 4}, {8, 8}, {15, Hubs.MISSING}, {18, 16}});
    }

    private static void outageThatCameLater() {
        CHECK.test("Samples: \"(one that there is when the sample is received)\": an outage that came after T");
        SensorHub x = Hubs.of("sensor 1 1 0 0 0 1;sensor 4 1 1 0 3 1;");
        x.subscribe(1, 4, 400);
        x.advance(4);
        x.addOutage(1, 4, 4);
        dueAt(x, 1, 5, new int[][] {{4, Hubs.NONE}, {5, Hubs.MISSING}, {8, 8}});
        x.addOutage(1, 8, 8);
        due("a sample that was received before stays", x.sensor(1, 5), 8);
        due("its entry stays", x.entry(1, 2), 8);
    }

    private static void outageThatIsGone() {
        CHECK.test("Samples: \"(one that there is when the sample is received)\": an outage that was undone");
        SensorHub x = Hubs.of("sensor 1 1 0 0 0 1;sensor 4 1 1 0 3 1;");
        x.subscribe(1, 4, 400);
        x.addOutage(1, 4, 4);
        x.undo();
        dueAt(x, 1, 5, new int[][] {{4, Hubs.NONE}, {5, 4}});
    }

    private static void missingSamplesCount() {
        CHECK.test("Entries: \"(also for a missing one) its cost is added to the energy\"");
        SensorHub x = Hubs.of("sensor 2 1 1 0 0 50;outage 0 0 9999;");
        x.subscribe(0, 2, 400);
        dueAt(x, 0, 3, new int[][] {{1, 0}, {2, 1}});
        due("energy", x.count(6), 50);
        dueAt(x, 0, 3, new int[][] {{4, 2}});
        due("energy", x.count(6), 100);
        due("stamp of a missing one", x.sensor(0, 4), 4);
    }

    private static void stampOfTheFirstSample() {
        CHECK.test("Samples: \"The stamp of sample 0 is the time at which it is received\"");
        SensorHub x = Hubs.of(SEVEN + "sensor 10 1 1 0 9 1;");
        x.subscribe(7, 10, 400);
        dueAt(x, 7, 4, new int[][] {{16, Hubs.NONE}, {17, 17}});
        x.subscribe(0, 1, 400);
        due("restart", x.count(7), 17);
        dueAt(x, 7, 4, new int[][] {{33, Hubs.NONE}, {34, 34}});
    }

    private static void stampsRoundedDown() {
        CHECK.test("Samples: \"e + (received - e) / 4, rounded down\": -3, -5, 4, 0, -3, 5, 1, -2, -4");
        // Late by 7, 4, 1, 8, 5, 2, 9, 6, 3, 0; e is 27, 36, 44, 55, 65, 74, 85, 95, 104.
        SensorHub x = Hubs.of(SEVEN + "sensor 10 1 1 0 9 1;");
        x.subscribe(7, 10, 400);
        dueAt(x, 7, 4, new int[][] {{17, 17}, {24, 26}, {31, 34}, {48, 45}, {55, 55}, {62, 64}, {79, 75}, {86, 85},
            {93, 94}, {100, 103}});
    }

    private static void valueOfTheTimeNotOfTheReceipt() {
        CHECK.test("Samples: \"otherwise its value is that of the sensor at T\"");
        SensorHub x = Hubs.of(SEVEN + "sensor 10 1 1 0 9 1;");
        x.subscribe(7, 10, 400);
        dueAt(x, 7, 5, new int[][] {{17, 10}, {24, 20}, {31, 30}, {48, 40}});
    }

    private static void derivedWithTheFirstInput() {
        CHECK.test("Samples: \"Whenever the first input .. receives a sample, the derived sensor receives one\"");
        SensorHub x = Hubs.of("sensor 3 1 1 0 0 1;mean 0 1;mean 1 1;mean 2 1;");
        x.subscribe(3, 3, 400);
        dueAt(x, 3, 3, new int[][] {{2, 0}, {3, 1}, {5, 1}, {6, 2}});
        due("value through three means", x.sensor(3, 5), 6);
    }

    private static void derivedNotWithTheSecondInput() {
        CHECK.test("Samples: \"Whenever the first input .. receives a sample\": not with the second one");
        SensorHub x = Hubs.of("sensor 2 1 1 0 0 1;sensor 5 1 1 0 0 1;sum 1 0;");
        x.subscribe(2, 5, 400);
        dueAt(x, 2, 3, new int[][] {{2, 0}, {4, 0}, {5, 1}, {6, 1}, {8, 1}, {10, 2}});
        due("value of 10 and 10", x.sensor(2, 5), 20);
    }

    private static void derivedThatIsOff() {
        CHECK.test("Samples: \"the first input of a derived sensor that is on\": one that is off receives none");
        SensorHub x = Hubs.of("sensor 2 1 1 0 0 1;mean 0 8;");
        x.subscribe(0, 2, 400);
        x.advance(6);
        due("samples of the input", x.sensor(0, 3), 3);
        due("samples of the mean", x.sensor(1, 3), 0);
        due("stamp of the mean", x.sensor(1, 4), Hubs.NONE);
        x.subscribe(1, 2, 400);
        due("no sample as it is on", x.sensor(1, 3), 0);
        x.advance(2);
        due("samples of the mean", x.sensor(1, 3), 1);
    }

    private static void derivedStamp() {
        CHECK.test("Samples: \"the derived sensor receives one at the same time, with the same stamp\"");
        SensorHub x = Hubs.of("sensor 2 1 1 0 0 1;sensor 10 1 1 0 9 1;sum 1 0;mean 2 8;");
        x.subscribe(3, 10, 400);
        // Late by 1, 8, 5: received at 11, 28 and 35; e is 21 and 32.
        dueAt(x, 3, 4, new int[][] {{10, Hubs.NONE}, {11, 11}, {27, 11}, {28, 22}, {35, 32}});
        due("the entry's stamp", x.entry(2, 1), 32);
    }

    private static void secondInputOfTheSameTick() {
        CHECK.test("Samples: \"y that of the second input (both possibly of the same tick)\"");
        SensorHub x = Hubs.of("sensor 3 1 1 0 0 1;sensor 3 1 1 500 0 1;sum 0 1;sum 1 0;sum 2 3;");
        x.subscribe(4, 3, 400);
        x.subscribe(3, 3, 400);
        x.advance(3);
        due("the second one of a greater number than the first", x.sensor(2, 5), 506);
        due("the second one of a smaller number than the first", x.sensor(3, 5), 506);
        due("both derived", x.sensor(4, 5), 12);
    }

    private static void secondInputOfAnEarlierTick() {
        CHECK.test("Samples: \"let x be the latest sample of the first input, and y that of the second input\"");
        SensorHub x = Hubs.of("sensor 2 1 1 0 0 1;sensor 5 1 0 100 0 1;max 1 0;sum 0 1;diff 2 0;");
        x.subscribe(3, 5, 400);
        x.subscribe(4, 5, 400);
        dueAt(x, 3, 5, new int[][] {{4, Hubs.MISSING}, {6, 106}, {8, 108}, {10, 110}});
        due("100 - 10", x.sensor(4, 5), 90);
        dueAt(x, 4, 5, new int[][] {{14, 90}, {15, 86}});
    }

    private static void secondInputWithoutASample() {
        CHECK.test("Samples: \"missing .. if the second input has not received any since the restart\"");
        SensorHub x = Hubs.of("sensor 2 1 1 0 0 1;sensor 5 1 1 0 0 1;sum 0 1;diff 0 1;max 0 1;");
        for (int number = 2; number <= 4; number++) {
            x.subscribe(number, 5, 400);
        }
        x.advance(4);
        for (int number = 2; number <= 4; number++) {
            due("samples of " + number, x.sensor(number, 3), 2);
            due("value of " + number, x.sensor(number, 5), Hubs.MISSING);
        }
        x.advance(1);
        due("still that of 4", x.sensor(2, 5), Hubs.MISSING);
        x.advance(1);
        due("6 + 5", x.sensor(2, 5), 11);
        due("6 - 5", x.sensor(3, 5), 1);
        due("6 or 5", x.sensor(4, 5), 6);
    }

    private static void secondInputAfterARestart() {
        CHECK.test("Samples: \"any since the restart\": samples from before the restart are no y");
        SensorHub x = Hubs.of("sensor 2 1 1 0 0 1;sensor 5 1 1 0 0 1;max 0 1;sensor 9 1 0 0 0 1;");
        x.subscribe(2, 5, 400);
        dueAt(x, 2, 5, new int[][] {{6, 6}});
        x.subscribe(3, 9, 400);
        due("restart", x.count(7), 6);
        dueAt(x, 2, 5, new int[][] {{8, Hubs.MISSING}, {10, Hubs.MISSING}, {12, 12}});
    }

    private static void secondInputThatWasOff() {
        CHECK.test("Samples: \"if the second input has not received any since the restart\": it has, before it was off");
        SensorHub x = Hubs.of("sensor 2 1 1 0 0 1;sensor 5 1 1 0 0 1;mean 1 1;sum 0 2;");
        x.subscribe(0, 2, 400);
        x.subscribe(1, 5, 400);
        x.subscribe(3, 5, 400);
        dueAt(x, 3, 5, new int[][] {{4, Hubs.MISSING}, {6, 11}});
        x.unsubscribe(2);
        due("the second input is off", x.sensor(2, 2), Hubs.NONE);
        x.advance(5);
        due("no restart", x.count(7), 0);
        due("its samples since the restart", x.sensor(2, 3), 1);
        due("its latest stamp since then", x.sensor(2, 4), 5);
        due("its latest value since then", x.sensor(2, 5), 5);
        x.subscribe(3, 5, 400);
        dueAt(x, 3, 5, new int[][] {{12, 17}, {14, 19}, {16, 31}});
        due("samples of the sum: at 2, 4, 6, 12, 14 and 16", x.sensor(3, 3), 6);
    }

    private static void oneInputMissing() {
        CHECK.test("Samples: \"The sample is missing if x or y is missing\"");
        SensorHub x = Hubs.of("sensor 1 1 1 0 0 1;sensor 1 1 1 5 0 1;sum 0 1;diff 0 1;max 0 1;"
                + "outage 0 2 3;outage 1 3 4;");
        for (int number = 2; number <= 4; number++) {
            x.subscribe(number, 1, 400);
        }
        int[][] values = {{7, 995, 6}, {-8, -8, -8}, {-8, -8, -8}, {-8, -8, -8}, {15, 995, 10}};
        for (int[] value : values) {
            x.advance(1);
            for (int number = 2; number <= 4; number++) {
                due("value of " + number + " at " + x.count(0), x.sensor(number, 5), value[number - 2]);
            }
        }
    }

    private static void sumWrapsAround() {
        CHECK.test("Samples: \"(x + y) modulo 1000\"");
        SensorHub x = Hubs.of("sensor 1 1 0 500 0 1;sensor 1 1 1 498 0 1;sum 0 1;sensor 1 1 0 999 0 1;sum 3 3;");
        x.subscribe(2, 1, 400);
        dueAt(x, 2, 5, new int[][] {{1, 999}, {2, 0}, {3, 1}});
        x.subscribe(4, 1, 400);
        dueAt(x, 4, 5, new int[][] {{4, 998}});
    }

    private static void differenceWrapsAround() {
        CHECK.test("Samples: \"(x - y) modulo 1000 (0 or more)\"");
        SensorHub x = Hubs.of("sensor 1 1 0 2 0 1;sensor 1 1 1 0 0 1;diff 0 1;sensor 1 1 0 999 0 1;"
                + "sensor 1 1 0 0 0 1;diff 4 3;diff 3 4;");
        x.subscribe(2, 1, 400);
        dueAt(x, 2, 5, new int[][] {{1, 1}, {2, 0}, {3, 999}, {4, 998}});
        x.subscribe(5, 1, 400);
        x.subscribe(6, 1, 400);
        dueAt(x, 5, 5, new int[][] {{5, 1}});
        due("999 - 0", x.sensor(6, 5), 999);
    }

    private static void greaterOfTheTwo() {
        CHECK.test("Samples: \"the greater one of x and y\"");
        SensorHub x = Hubs.of("sensor 1 1 0 2 0 1;sensor 1 1 1 0 0 1;max 0 1;max 1 0;");
        x.subscribe(2, 1, 400);
        x.subscribe(3, 1, 400);
        int[] values = {2, 2, 3, 4};
        for (int value : values) {
            x.advance(1);
            due("max 0 1 at " + x.count(0), x.sensor(2, 5), value);
            due("max 1 0 at " + x.count(0), x.sensor(3, 5), value);
        }
    }

    private static void meanOfFewer() {
        CHECK.test("Samples: \"or all if there are fewer\"");
        SensorHub x = Hubs.of("sensor 1 1 10 0 0 1;mean 0 8;");
        x.subscribe(1, 1, 400);
        dueAt(x, 1, 5, new int[][] {{1, 10}, {2, 15}, {3, 20}, {4, 25}, {5, 30}, {6, 35}, {7, 40}});
    }

    private static void meanOfAsManyAsTheLength() {
        CHECK.test("Samples: \"the latest samples of the input .. as many as the length\"");
        SensorHub x = Hubs.of("sensor 1 1 10 0 0 1;mean 0 8;mean 0 2;mean 0 1;");
        for (int number = 1; number <= 3; number++) {
            x.subscribe(number, 1, 400);
        }
        dueAt(x, 1, 5, new int[][] {{8, 45}, {9, 55}, {16, 125}, {17, 135}});
        due("the latest two", x.sensor(2, 5), 165);
        due("the latest one", x.sensor(3, 5), 170);
    }

    private static void meanRoundedDown() {
        CHECK.test("Samples: \"the mean, rounded down\"");
        SensorHub x = Hubs.of("sensor 1 1 1 0 0 1;mean 0 2;mean 0 4;sensor 1 1 1 998 0 1;mean 3 3;");
        x.subscribe(1, 1, 400);
        x.subscribe(2, 1, 400);
        x.subscribe(4, 1, 400);
        x.advance(2);
        due("of 1 and 2", x.sensor(1, 5), 1);
        due("of 999 and 0", x.sensor(4, 5), 499);
        x.advance(1);
        due("of 999, 0 and 1: no modulo", x.sensor(4, 5), 333);
        x.advance(1);
        due("of 1 to 4", x.sensor(2, 5), 2);
    }

    private static void meanOfZeros() {
        CHECK.test("Samples: a mean of the values 0 is 0, not missing");
        SensorHub x = Hubs.of("sensor 1 1 0 0 0 1;mean 0 3;");
        x.subscribe(1, 1, 400);
        dueAt(x, 1, 5, new int[][] {{1, 0}, {5, 0}});
    }

    private static void meanWithMissingSamples() {
        CHECK.test("Samples: \"missing if the sample of the input is missing\"; \"samples .. that are not missing\"");
        SensorHub x = Hubs.of("sensor 1 1 10 0 0 1;mean 0 2;outage 0 3 5;outage 0 7 7;");
        x.subscribe(1, 1, 400);
        int[] values = {10, 15, Hubs.MISSING, Hubs.MISSING, Hubs.MISSING, 40, Hubs.MISSING, 70, 85};
        for (int value : values) {
            x.advance(1);
            due("value at " + x.count(0), x.sensor(1, 5), value);
        }
    }

    private static void meanOfMissingSamplesOnly() {
        CHECK.test("Samples: \"missing if the sample of the input is missing\": nothing else has been received");
        SensorHub x = Hubs.of("sensor 1 1 10 0 0 1;mean 0 8;mean 1 8;outage 0 0 4;");
        x.subscribe(2, 1, 400);
        dueAt(x, 2, 5, new int[][] {{1, Hubs.MISSING}, {4, Hubs.MISSING}, {5, 50}, {6, 52}});
        due("mean of 50 and 60", x.sensor(1, 5), 55);
    }

    private static void meanOfADerivedSensor() {
        CHECK.test("Samples: \"the latest samples of the input\": of a derived input, without its missing ones");
        SensorHub x = Hubs.of("sensor 2 1 1 0 0 1;sensor 5 1 0 100 0 1;sum 0 1;mean 2 3;");
        x.subscribe(3, 5, 400);
        dueAt(x, 3, 5, new int[][] {{4, Hubs.MISSING}, {6, 106}, {8, 107}, {10, 108}, {12, 110}});
    }

    private static void meanSinceTheRestart() {
        CHECK.test("Samples: \"the latest samples of the input since the restart\"");
        SensorHub x = Hubs.of("sensor 1 1 10 0 0 1;mean 0 8;sensor 9 1 0 0 0 1;");
        x.subscribe(1, 1, 400);
        dueAt(x, 1, 5, new int[][] {{10, 65}});
        x.subscribe(2, 9, 400);
        due("restart", x.count(7), 10);
        dueAt(x, 1, 5, new int[][] {{11, 110}, {12, 115}, {18, 145}, {19, 155}});
    }

    private static void meanFromBeforeItWasOn() {
        CHECK.test("Samples: \"the latest samples of the input since the restart\", also from before the mean was on");
        SensorHub x = Hubs.of("sensor 1 1 10 0 0 1;mean 0 4;");
        x.subscribe(0, 1, 400);
        x.advance(2);
        x.subscribe(1, 1, 400);
        due("no restart", x.count(7), 0);
        dueAt(x, 1, 5, new int[][] {{3, 20}, {4, 25}, {5, 35}});
        due("samples of the mean", x.sensor(1, 3), 3);
    }

    private static void firstSampleIsTaken() {
        CHECK.test("Entries: \"the first one since the last restart\"");
        SensorHub x = Hubs.of("sensor 2 1 1 0 0 1;");
        x.subscribe(0, 400, 400);
        x.advance(1);
        due("entries at 1", x.count(4), 0);
        x.advance(1);
        due("entries at 2", x.count(4), 1);
        due("stamp", x.entry(0, 1), 2);
        x.advance(398);
        due("entries at 400", x.count(4), 1);
        x.advance(2);
        due("k of 400 / 2", x.client(0, 3), 200);
        due("delivered at 402 with the entry of 402", x.client(0, 5), 2);
        due("its stamp", x.delivered(0, 0, 0), 402);
    }

    private static void firstSampleSinceAClientCame() {
        CHECK.test("Entries: \"or since it became a client, whichever is later\"");
        SensorHub x = Hubs.of("sensor 2 1 1 0 0 1;");
        x.subscribe(0, 4, 400);
        x.advance(2);
        x.subscribe(0, 4, 400);
        due("no restart", x.count(7), 0);
        x.advance(6);
        int[][] entries = {{1, 4}, {0, 6}, {1, 8}};
        due("entries", x.count(4), entries.length);
        for (int i = 0; i < entries.length; i++) {
            due("client of " + i, x.entry(i, 0), entries[i][0]);
            due("stamp of " + i, x.entry(i, 1), entries[i][1]);
        }
    }

    private static void everyKthSample() {
        CHECK.test("Entries: \"and then every k-th one\"");
        SensorHub x = Hubs.of("sensor 3 1 1 0 0 1;");
        x.subscribe(0, 3, 400);
        x.subscribe(0, 6, 400);
        x.subscribe(0, 9, 400);
        x.advance(21);
        int[] clients = {0, 1, 2, 0, 0, 1};
        due("full at 15", x.wakes(1), 1);
        due("of each sample", x.client(0, 5) + x.client(0, 4), 7);
        due("of each second sample", x.client(1, 5) + x.client(1, 4), 4);
        due("of each third sample", x.client(2, 5) + x.client(2, 4), 3);
        x.undo();
        x.advance(12);
        for (int i = 0; i < clients.length; i++) {
            due("client of " + i, x.entry(i, 0), clients[i]);
        }
    }

    private static void kRoundedDown() {
        CHECK.test("Entries: \"k is P divided by the period of the sensor, rounded down\"");
        int[][] strides = {{5, 1}, {6, 1}, {9, 1}, {10, 2}, {14, 2}, {15, 3}, {399, 79}, {400, 80}};
        for (int[] stride : strides) {
            SensorHub x = Hubs.of("sensor 5 1 0 0 0 1;");
            x.subscribe(0, stride[0], 0);
            due("k for " + stride[0], x.client(0, 3), stride[1]);
            x.advance(5 * stride[1]);
            due("delivered before the second", x.client(0, 5), 1);
            x.advance(5);
            due("delivered with the second", x.client(0, 5), 2);
        }
    }

    private static void missingSamplesAreTaken() {
        CHECK.test("Entries: \"A client takes some of the samples (missing ones or not)\"");
        SensorHub x = Hubs.of("sensor 2 1 1 0 0 1;outage 0 2 6;");
        x.subscribe(0, 4, 400);
        x.advance(10);
        int[][] entries = {{2, Hubs.MISSING}, {6, Hubs.MISSING}, {10, 10}};
        due("entries", x.count(4), entries.length);
        for (int i = 0; i < entries.length; i++) {
            due("stamp of " + i, x.entry(i, 1), entries[i][0]);
            due("value of " + i, x.entry(i, 2), entries[i][1]);
        }
        x.flush();
        due("missing ones among the delivered", x.client(0, 6), 2);
    }

    private static void takenAgainAfterARestart() {
        CHECK.test("Entries: \"the first one since the last restart\": counted anew after a restart");
        SensorHub x = Hubs.of("sensor 2 1 1 0 0 1;sensor 7 1 0 0 0 1;");
        x.subscribe(0, 6, 400);
        x.advance(4);
        x.subscribe(1, 400, 400);
        due("restart", x.count(7), 4);
        x.advance(2);
        due("entries at 6", x.count(4), 1);
        x.advance(4);
        due("entries at 10", x.client(0, 4), 1);
        x.advance(2);
        due("entries at 12", x.client(0, 4), 2);
    }
}
