/**
 * The boundary cases of the section "Clients and periods" and of the promises 5,
 * 6, 16 and 17. Each test's name tells where its sentence stands, and the sentence.
 */
public final class ClientBoundaryTests {
    private static final Check CHECK = new Check("ClientBoundaryTests");

    public static void main(String[] args) {
        eightClients();
        smallestFreeNumber();
        greatestPeriod();
        greatestDelay();
        delayOfZero();
        delayOf400();
        sensorOfAClient();
        lessThanTheLeastPeriod();
        lessThroughAFirstInput();
        lessThroughASecondInput();
        refusalsOfSubscribeInOrder();
        noDemand();
        smallestDemand();
        greatestPeriodAtMostTheDemand();
        periodOfADerivedSensor();
        noRestartBefore();
        restartAsASensorIsOn();
        restartAsASensorIsOff();
        restartAsAPeriodChanges();
        noRestartWithoutAChange();
        restartOfAllSensors();
        derivedOnesDoNotRestart();
        secondInputsDoRestart();
        samplesAreForgotten();
        wakeBeforeAClientIsThere();
        noWakeWithAnEmptyStore();
        refusedSubscribeMakesNoWake();
        unsubscribeNoSuchClient();
        deliveredToALeavingClient();
        nothingDeliveredToALeavingClient();
        wakeBeforeAClientIsGone();
        numberUsedAgain();
        sensorArguments();
        noSampleYet();
        clientArguments();
        clientAtFirst();
        CHECK.finish();
    }

    private static void due(String call, int got, int want) {
        CHECK.due(call, got, want);
    }

    private static void eightClients() {
        CHECK.test("Clients: \"There are at most 8 clients, numbered from 0 to 7\"; promise 5: \"CAPACITY_EXCEEDED\"");
        SensorHub x = Hubs.clock();
        for (int number = 0; number < 8; number++) {
            due("clients", x.count(2), number);
            due("subscribe", x.subscribe(0, 1 + number, 400), number);
        }
        due("a ninth", x.subscribe(0, 1, 400), Hubs.NO_ROOM);
        due("clients", x.count(2), 8);
        due("the last one's P", x.client(7, 1), 8);
        due("none behind it", x.client(8, 1), Hubs.INVALID);
        x.advance(1);
        due("entries of eight", x.count(4), 8);
        due("the last one's", x.entry(7, 0), 7);
    }

    private static void smallestFreeNumber() {
        CHECK.test("Clients: \"a new client gets the smallest number that is free\"");
        SensorHub x = Hubs.clock();
        for (int number = 0; number < 8; number++) {
            x.subscribe(0, 1, 400);
        }
        x.unsubscribe(7);
        x.unsubscribe(0);
        x.unsubscribe(4);
        due("clients", x.count(2), 5);
        due("the smallest one", x.subscribe(0, 10, 0), 0);
        due("the next one", x.subscribe(0, 11, 0), 4);
        due("the greatest one", x.subscribe(0, 12, 0), 7);
        due("none is free", x.subscribe(0, 13, 0), Hubs.NO_ROOM);
        due("P of 0", x.client(0, 1), 10);
        due("P of 4", x.client(4, 1), 11);
        due("P of 7", x.client(7, 1), 12);
    }

    private static void greatestPeriod() {
        CHECK.test("promise 5: \"period: its P, 1 to 400\"");
        SensorHub x = Hubs.clock();
        due("0", x.subscribe(0, 0, 5), Hubs.INVALID);
        due("-1", x.subscribe(0, -1, 5), Hubs.INVALID);
        due("401", x.subscribe(0, 401, 5), Hubs.INVALID);
        due("1", x.subscribe(0, 1, 5), 0);
        due("400", x.subscribe(0, 400, 5), 1);
        due("k of 1", x.client(0, 3), 1);
        due("k of 400", x.client(1, 3), 400);
    }

    private static void greatestDelay() {
        CHECK.test("promise 5: \"delay: its D, 0 to 400\"");
        SensorHub x = Hubs.clock();
        due("-1", x.subscribe(0, 1, -1), Hubs.INVALID);
        due("401", x.subscribe(0, 1, 401), Hubs.INVALID);
        due("0", x.subscribe(0, 1, 0), 0);
        due("400", x.subscribe(0, 1, 400), 1);
        due("D of the first", x.client(0, 2), 0);
        due("D of the second", x.client(1, 2), 400);
    }

    private static void delayOfZero() {
        CHECK.test("Clients: \"a greatest delay D from 0\": with 0 there is a wake in the tick of the entry");
        SensorHub x = Hubs.clockFor(0);
        due("wakes", x.advance(1), 1);
        due("entries", x.count(4), 0);
        due("time of the delivery", x.delivered(0, 0, 2), 1);
        due("wakes", x.advance(3), 3);
        due("age", x.client(0, 7), 0);
    }

    private static void delayOf400() {
        CHECK.test("Clients: \"a greatest delay D .. to 400\": an entry of 1 is delivered at 401");
        SensorHub x = Hubs.clock();
        x.subscribe(0, 400, 400);
        due("wakes until 400", x.advance(400), 0);
        due("wakes at 401", x.advance(1), 1);
        due("age", x.client(0, 7), 400);
        due("delivered with the entry of 401", x.client(0, 5), 2);
    }

    private static void sensorOfAClient() {
        CHECK.test("promise 5: \"INVALID_ARGUMENT if there is no such sensor\"");
        due("in a hub without sensors", new SensorHub().subscribe(0, 20, 0), Hubs.INVALID);
        SensorHub x = Hubs.of("sensor 1 1 0 0 0 1;sum 0 0;");
        due("-1", x.subscribe(-1, 20, 0), Hubs.INVALID);
        due("2", x.subscribe(2, 20, 0), Hubs.INVALID);
        due("8", x.subscribe(8, 20, 0), Hubs.INVALID);
        due("1", x.subscribe(1, 20, 0), 0);
        due("0", x.subscribe(0, 20, 0), 1);
    }

    private static void lessThanTheLeastPeriod() {
        CHECK.test("promise 5: \"ILLEGAL_STATE if the demand on some physical sensor would be less than its least\"");
        SensorHub x = Hubs.of("sensor 20 5 0 0 0 1;");
        due("1", x.subscribe(0, 1, 0), Hubs.ILLEGAL);
        due("19", x.subscribe(0, 19, 0), Hubs.ILLEGAL);
        due("clients", x.count(2), 0);
        due("demand", x.sensor(0, 1), Hubs.NONE);
        due("20", x.subscribe(0, 20, 0), 0);
        due("19, with another client there", x.subscribe(0, 19, 0), Hubs.ILLEGAL);
    }

    private static void lessThroughAFirstInput() {
        CHECK.test("promise 5: \"the demand on some physical sensor\": through first inputs");
        SensorHub x = Hubs.of("sensor 9 5 0 0 0 1;sensor 2 1 0 0 0 1;mean 0 1;sum 2 1;mean 3 1;diff 4 1;");
        due("8", x.subscribe(5, 8, 0), Hubs.ILLEGAL);
        due("9", x.subscribe(5, 9, 0), 0);
        due("demand on the source", x.sensor(0, 1), 9);
    }

    private static void lessThroughASecondInput() {
        CHECK.test("promise 5: \"the demand on some physical sensor\": through second inputs");
        SensorHub x = Hubs.of("sensor 2 1 0 0 0 1;sensor 9 5 0 0 0 1;max 0 1;sum 0 2;mean 3 2;diff 0 4;");
        due("8", x.subscribe(5, 8, 0), Hubs.ILLEGAL);
        due("8 of a sensor that does not need it", x.subscribe(0, 8, 0), 0);
        due("9", x.subscribe(5, 9, 0), 1);
        due("demand on the second input", x.sensor(1, 1), 9);
    }

    private static void refusalsOfSubscribeInOrder() {
        CHECK.test("Errors: \"the one that its description lists first\": subscribe");
        SensorHub x = Hubs.of("sensor 5 1 0 0 0 1;");
        for (int number = 0; number < 8; number++) {
            x.subscribe(0, 5, 400);
        }
        due("wrong, too fast and no room", x.subscribe(0, 4, 401), Hubs.INVALID);
        due("no such sensor and no room", x.subscribe(1, 5, 0), Hubs.INVALID);
        due("too fast and no room", x.subscribe(0, 4, 400), Hubs.ILLEGAL);
        due("no room", x.subscribe(0, 5, 400), Hubs.NO_ROOM);
    }

    private static void noDemand() {
        CHECK.test("Clients: \"there is none if there is nothing of which it could be made\"");
        SensorHub x = Hubs.of("sensor 1 1 0 0 0 3;mean 0 1;sensor 1 1 0 0 0 5;");
        dueOff(x, 0);
        dueOff(x, 1);
        x.advance(10);
        due("energy of sensors that are off", x.count(6), 0);
        x.subscribe(0, 7, 0);
        dueOff(x, 1);
        dueOff(x, 2);
        due("demand on the input alone", x.sensor(0, 1), 7);
        x.unsubscribe(0);
        dueOff(x, 0);
        x.advance(10);
        due("energy of sensors that are off again", x.count(6), 0);
    }

    private static void dueOff(SensorHub x, int sensor) {
        due("demand on " + sensor, x.sensor(sensor, 1), Hubs.NONE);
        due("period of " + sensor, x.sensor(sensor, 2), Hubs.NONE);
        due("samples of " + sensor, x.sensor(sensor, 3), 0);
    }

    private static void smallestDemand() {
        CHECK.test("Clients: \"the smallest one of the P of its clients and of the demands on the derived sensors\"");
        SensorHub x = Hubs.of("sensor 1 1 0 0 0 1;mean 0 1;sum 0 0;");
        x.subscribe(0, 30, 0);
        due("of one client", x.sensor(0, 1), 30);
        x.subscribe(0, 31, 0);
        due("of two clients", x.sensor(0, 1), 30);
        x.subscribe(1, 29, 0);
        due("of a derived sensor", x.sensor(0, 1), 29);
        x.subscribe(2, 28, 0);
        due("of two derived sensors", x.sensor(0, 1), 28);
        due("not of the others of the input", x.sensor(1, 1), 29);
        x.subscribe(0, 27, 0);
        due("of a client again", x.sensor(0, 1), 27);
        due("not of the clients of the input", x.sensor(2, 1), 28);
        x.unsubscribe(3);
        x.unsubscribe(4);
        due("of the derived sensor that is left", x.sensor(0, 1), 29);
    }

    private static void greatestPeriodAtMostTheDemand() {
        CHECK.test("Clients: \"the greatest period that it supports and that is at most the demand\"");
        int[][] periods = {{5, 5}, {9, 5}, {10, 10}, {11, 10}, {19, 10}, {20, 20}, {39, 20}, {40, 40}, {79, 40},
            {80, 80}, {81, 80}, {159, 80}, {160, 80}, {400, 80}};
        for (int[] period : periods) {
            SensorHub x = Hubs.of("sensor 5 5 0 0 0 1;");
            x.subscribe(0, period[0], 0);
            due("period for " + period[0], x.sensor(0, 2), period[1]);
            due("k for " + period[0], x.client(0, 3), period[0] / period[1]);
        }
    }

    private static void periodOfADerivedSensor() {
        CHECK.test("Clients: \"the period of a derived sensor that is on is that of its source\"");
        SensorHub x = Hubs.of("sensor 2 5 0 0 0 1;sensor 3 5 0 0 0 1;sum 0 1;mean 2 4;");
        x.subscribe(3, 13, 0);
        int[] periods = {8, 12, 8, 8};
        for (int number = 0; number < 4; number++) {
            due("period of " + number, x.sensor(number, 2), periods[number]);
        }
        due("k", x.client(0, 3), 1);
        x.subscribe(0, 5, 0);
        due("period of the source", x.sensor(0, 2), 4);
        due("period of the mean", x.sensor(3, 2), 4);
        due("k", x.client(0, 3), 3);
    }

    private static void noRestartBefore() {
        CHECK.test("promise 14: \"the time of the last restart (0 if there was none)\"");
        SensorHub x = Hubs.clock();
        x.advance(4);
        due("no client", x.count(7), 0);
        x.setCapacity(3);
        x.addSensor(1, 1, 0, 0, 0, 1);
        x.addDerived(0, 0, 0);
        x.addOutage(0, 0, 9999);
        due("sensors without demand", x.count(7), 0);
        x.subscribe(0, 1, 0);
        due("the first client", x.count(7), 4);
        SensorHub y = Hubs.clockFor(0);
        due("a restart at 0", y.count(7), 0);
        y.advance(5);
        due("the ticks after it", y.count(7), 0);
    }

    private static void restartAsASensorIsOn() {
        CHECK.test("Clients: \"restarted if it changes for some physical sensor whether it is on\": on");
        SensorHub x = Hubs.of("sensor 3 1 1 0 0 1;sensor 3 1 1 0 0 1;");
        x.advance(2);
        x.subscribe(1, 3, 400);
        due("the first sensor on", x.count(7), 2);
        x.advance(4);
        x.subscribe(0, 3, 400);
        due("another sensor on", x.count(7), 6);
    }

    private static void restartAsASensorIsOff() {
        CHECK.test("Clients: \"restarted if it changes for some physical sensor whether it is on\": off");
        SensorHub x = Hubs.of("sensor 3 1 1 0 0 1;sensor 3 1 1 0 0 1;");
        x.subscribe(0, 3, 400);
        x.subscribe(1, 3, 400);
        x.advance(4);
        x.unsubscribe(0);
        due("one sensor off", x.count(7), 4);
        due("the other's samples", x.sensor(1, 3), 0);
        x.advance(2);
        due("until one period later", x.sensor(1, 3), 0);
        x.advance(1);
        due("after one period", x.sensor(1, 4), 7);
        x.unsubscribe(1);
        due("the last sensor off", x.count(7), 7);
        due("its samples", x.sensor(1, 3), 0);
    }

    private static void restartAsAPeriodChanges() {
        CHECK.test("Clients: \"restarted if it changes .. its period\"");
        SensorHub x = Hubs.of("sensor 3 3 1 0 0 1;");
        x.subscribe(0, 12, 400);
        x.advance(1);
        x.subscribe(0, 11, 400);
        due("from 12 to 6", x.count(7), 1);
        x.advance(1);
        x.subscribe(0, 5, 400);
        due("from 6 to 3", x.count(7), 2);
        x.advance(1);
        x.unsubscribe(2);
        due("from 3 to 6", x.count(7), 3);
        x.advance(1);
        x.unsubscribe(1);
        due("from 6 to 12", x.count(7), 4);
    }

    private static void noRestartWithoutAChange() {
        CHECK.test("Clients: \"restarted if it changes\": not if the demand changes but not the period");
        SensorHub x = Hubs.of("sensor 3 3 1 0 0 1;");
        x.subscribe(0, 12, 400);
        x.advance(25);
        x.subscribe(0, 13, 400);
        x.subscribe(0, 400, 400);
        due("greater P", x.count(7), 0);
        x.unsubscribe(0);
        due("demand", x.sensor(0, 1), 13);
        due("the demand 13 in place of 12", x.count(7), 0);
        x.unsubscribe(1);
        due("the demand 400 in place of 13", x.count(7), 0);
        due("samples", x.sensor(0, 3), 2);
        x.subscribe(0, 12, 400);
        due("the demand 12 again", x.count(7), 0);
        due("samples", x.sensor(0, 3), 2);
        x.advance(11);
        due("the next sample as before", x.sensor(0, 4), 36);
    }

    private static void restartOfAllSensors() {
        CHECK.test("Clients: \"A restart concerns all sensors: those that are on begin anew then\"");
        SensorHub x = Hubs.of("sensor 4 1 1 0 0 1;sensor 9 1 1 0 0 1;mean 0 8;");
        x.subscribe(2, 4, 400);
        x.advance(7);
        x.subscribe(1, 9, 400);
        due("restart", x.count(7), 7);
        x.advance(3);
        due("at 10, before 7 + 4", x.sensor(0, 3), 0);
        x.advance(1);
        due("at 11", x.sensor(0, 3), 1);
        due("its value", x.sensor(0, 5), 11);
        due("the mean forgets, too", x.sensor(2, 5), 11);
        due("samples of the mean", x.sensor(2, 3), 1);
    }

    private static void derivedOnesDoNotRestart() {
        CHECK.test("Clients: \"for some physical sensor\": not as a derived sensor is on or off");
        SensorHub x = Hubs.of("sensor 4 1 1 0 0 1;mean 0 8;sum 1 0;");
        x.subscribe(0, 4, 400);
        x.advance(5);
        x.subscribe(2, 4, 400);
        due("two are on", x.count(7), 0);
        due("samples of the input", x.sensor(0, 3), 1);
        x.advance(4);
        x.unsubscribe(1);
        due("two are off", x.count(7), 0);
        due("samples of the input", x.sensor(0, 3), 2);
        due("period of one that is off", x.sensor(2, 2), Hubs.NONE);
    }

    private static void secondInputsDoRestart() {
        CHECK.test("Clients: \"for some physical sensor\": also if it is only a second input");
        SensorHub x = Hubs.of("sensor 4 1 1 0 0 1;sensor 5 1 1 0 0 1;diff 0 1;");
        x.subscribe(0, 5, 400);
        x.advance(6);
        x.subscribe(2, 5, 400);
        due("the second input is on", x.count(7), 6);
        x.advance(6);
        x.unsubscribe(1);
        due("the second input is off", x.count(7), 12);
    }

    private static void samplesAreForgotten() {
        CHECK.test("Clients: \"all samples that were received before are forgotten\"");
        SensorHub x = Hubs.of("sensor 2 2 1 0 0 1;mean 0 3;");
        x.subscribe(1, 4, 400);
        x.advance(8);
        due("samples", x.sensor(1, 3), 2);
        due("mean of 4 and 8", x.sensor(1, 5), 6);
        x.subscribe(0, 2, 400);
        for (int number = 0; number < 2; number++) {
            due("samples of " + number, x.sensor(number, 3), 0);
            due("stamp of " + number, x.sensor(number, 4), Hubs.NONE);
            due("value of " + number, x.sensor(number, 5), Hubs.NONE);
        }
        x.advance(2);
        due("mean of 10 alone", x.sensor(1, 5), 10);
        due("what was delivered stays", x.delivered(0, 0, 0), 8);
    }

    private static void wakeBeforeAClientIsThere() {
        CHECK.test("promise 5: \"Before it is there, there is a wake with the cause change\"");
        SensorHub x = Hubs.clockFor(400);
        x.advance(1);
        due("subscribe", x.subscribe(0, 1, 0), 1);
        due("change", x.wakes(2), 1);
        due("entries", x.count(4), 0);
        due("delivered to the one before", x.client(0, 5), 1);
        due("time of the delivery", x.delivered(0, 0, 2), 1);
        due("energy", x.count(6), 1 + 20);
    }

    private static void noWakeWithAnEmptyStore() {
        CHECK.test("Entries: \"There is no wake if the store is empty\": change");
        SensorHub x = Hubs.clock();
        x.subscribe(0, 1, 0);
        x.subscribe(0, 1, 0);
        x.unsubscribe(1);
        x.setCapacity(5);
        x.unsubscribe(0);
        due("change", x.wakes(2), 0);
        due("energy", x.count(6), 0);
    }

    private static void refusedSubscribeMakesNoWake() {
        CHECK.test("Errors: \"A call that returns an error code changes nothing\": no wake before a refused subscribe");
        SensorHub x = Hubs.of("sensor 2 1 1 0 0 1;");
        for (int number = 0; number < 8; number++) {
            x.subscribe(0, 2, 400);
        }
        x.advance(2);
        due("no room", x.subscribe(0, 2, 400), Hubs.NO_ROOM);
        due("too fast", x.subscribe(0, 1, 400), Hubs.ILLEGAL);
        due("wrong", x.subscribe(0, 2, 401), Hubs.INVALID);
        due("wrong, to unsubscribe", x.unsubscribe(8), Hubs.INVALID);
        due("change", x.wakes(2), 0);
        due("entries", x.count(4), 8);
    }

    private static void unsubscribeNoSuchClient() {
        CHECK.test("promise 6: \"INVALID_ARGUMENT if there is no such client\"");
        due("in a new hub", new SensorHub().unsubscribe(0), Hubs.INVALID);
        SensorHub x = Hubs.clock();
        x.subscribe(0, 1, 0);
        x.subscribe(0, 1, 0);
        due("-1", x.unsubscribe(-1), Hubs.INVALID);
        due("2", x.unsubscribe(2), Hubs.INVALID);
        due("8", x.unsubscribe(8), Hubs.INVALID);
        due("0", x.unsubscribe(0), 0);
        due("0 twice", x.unsubscribe(0), Hubs.INVALID);
        due("clients", x.count(2), 1);
        due("1", x.unsubscribe(1), 0);
    }

    private static void deliveredToALeavingClient() {
        CHECK.test("promise 6: \"the number of entries that have been delivered to it, those of this wake included\"");
        SensorHub x = Hubs.clock();
        x.subscribe(0, 1, 2);
        x.subscribe(0, 1, 400);
        // A wake at 3 delivers three entries of each; at 5 there are two more of each.
        x.advance(5);
        due("delivered before", x.client(1, 5), 3);
        due("unsubscribe", x.unsubscribe(1), 5);
        due("delivered to the other one", x.client(0, 5), 5);
    }

    private static void nothingDeliveredToALeavingClient() {
        CHECK.test("promise 6: \"the number of entries that have been delivered to it\": none");
        SensorHub x = Hubs.clockFor(400);
        x.advance(3);
        x.subscribe(0, 1, 400);
        due("one that came after all samples", x.unsubscribe(1), 0);
        due("the other one", x.unsubscribe(0), 3);
    }

    private static void wakeBeforeAClientIsGone() {
        CHECK.test("promise 6: \"Before it is gone, there is a wake with the cause change\"");
        SensorHub x = Hubs.clock();
        x.subscribe(0, 2, 400);
        x.subscribe(0, 2, 400);
        x.advance(1);
        due("unsubscribe", x.unsubscribe(0), 1);
        due("change", x.wakes(2), 1);
        due("entries", x.count(4), 0);
        due("energy", x.count(6), 1 + 20);
        due("delivered to the other one", x.client(1, 5), 1);
        x.advance(2);
        due("entries of the one that is left", x.count(4), 1);
        due("its client", x.entry(0, 0), 1);
    }

    private static void numberUsedAgain() {
        CHECK.test("promise 17: a new client with a number that was used before begins with nothing");
        SensorHub x = Hubs.of("sensor 1 1 1 0 0 1;outage 0 1 2;");
        x.subscribe(0, 2, 400);
        x.subscribe(0, 1, 1);
        x.advance(4);
        int[] before = {0, 1, 1, 1, 0, 4, 2, 1, 2};
        dueClient(x, 1, before);
        x.unsubscribe(1);
        due("subscribe", x.subscribe(0, 3, 7), 1);
        int[] after = {0, 3, 7, 3, 0, 0, 0, Hubs.NONE, 0};
        dueClient(x, 1, after);
        for (int index = 0; index < 6; index++) {
            due("delivered " + index, x.delivered(1, index, 0), Hubs.NONE);
        }
        x.advance(1);
        due("it takes the first sample since it became a client", x.client(1, 4), 1);
    }

    private static void dueClient(SensorHub x, int client, int[] want) {
        for (int what = 0; what < want.length; what++) {
            due("client(" + client + ", " + what + ")", x.client(client, what), want[what]);
        }
    }

    private static void sensorArguments() {
        CHECK.test("promise 16: \"INVALID_ARGUMENT if there is no such sensor or what is out of range\"");
        due("in a new hub", new SensorHub().sensor(0, 0), Hubs.INVALID);
        SensorHub x = Hubs.of("sensor 1 1 0 0 0 1;mean 0 1;");
        due("sensor -1", x.sensor(-1, 0), Hubs.INVALID);
        due("sensor 2", x.sensor(2, 0), Hubs.INVALID);
        due("sensor 8", x.sensor(8, 0), Hubs.INVALID);
        due("what -1", x.sensor(0, -1), Hubs.INVALID);
        due("what 7", x.sensor(0, 7), Hubs.INVALID);
        due("sensor 2, what 4, where there could be NONE", x.sensor(2, 4), Hubs.INVALID);
        due("what 0 of 1", x.sensor(1, 0), 3);
        due("what 6 of 1", x.sensor(1, 6), 0);
    }

    private static void noSampleYet() {
        CHECK.test("promise 16: \"NONE for 4 and 5 if there is no such sample\"");
        SensorHub x = Hubs.of("sensor 3 1 1 0 0 1;mean 0 1;outage 0 3 3;");
        due("stamp, off", x.sensor(0, 4), Hubs.NONE);
        due("value, off", x.sensor(0, 5), Hubs.NONE);
        x.subscribe(1, 3, 400);
        x.advance(2);
        for (int number = 0; number < 2; number++) {
            due("samples at 2", x.sensor(number, 3), 0);
            due("stamp at 2", x.sensor(number, 4), Hubs.NONE);
            due("value at 2", x.sensor(number, 5), Hubs.NONE);
        }
        x.advance(1);
        for (int number = 0; number < 2; number++) {
            due("samples at 3", x.sensor(number, 3), 1);
            due("stamp at 3", x.sensor(number, 4), 3);
            due("value at 3: \"MISSING if it is missing\"", x.sensor(number, 5), Hubs.MISSING);
        }
    }

    private static void clientArguments() {
        CHECK.test("promise 17: \"INVALID_ARGUMENT if there is no such client or what is out of range\"");
        due("in a new hub", new SensorHub().client(0, 0), Hubs.INVALID);
        SensorHub x = Hubs.clock();
        x.subscribe(0, 5, 6);
        x.subscribe(0, 7, 8);
        x.unsubscribe(0);
        due("client -1", x.client(-1, 0), Hubs.INVALID);
        due("client 0, which is gone", x.client(0, 0), Hubs.INVALID);
        due("client 2", x.client(2, 0), Hubs.INVALID);
        due("client 8", x.client(8, 0), Hubs.INVALID);
        due("what -1", x.client(1, -1), Hubs.INVALID);
        due("what 9", x.client(1, 9), Hubs.INVALID);
        due("client 2, what 7, where there could be NONE", x.client(2, 7), Hubs.INVALID);
        due("what 0", x.client(1, 0), 0);
        due("what 8", x.client(1, 8), 0);
    }

    private static void clientAtFirst() {
        CHECK.test("promise 17: \"the greatest age of these (NONE if there are none)\"");
        SensorHub x = Hubs.clockFor(400);
        due("nothing delivered", x.client(0, 7), Hubs.NONE);
        x.advance(1);
        due("an entry in the store", x.client(0, 7), Hubs.NONE);
        x.flush();
        due("delivered at once", x.client(0, 7), 0);
        x.advance(3);
        x.flush();
        due("the first of three", x.client(0, 7), 2);
        x.advance(2);
        x.flush();
        due("the greatest one stays", x.client(0, 7), 2);
    }
}
