/**
 * The boundary cases of the section "Entries and wakes" and of the promises 7, 11,
 * 12, 14, 15 and 18 to 20. Each test's name tells where its sentence stands, and
 * the sentence.
 */
public final class StoreBoundaryTests {
    private static final Check CHECK = new Check("StoreBoundaryTests");

    public static void main(String[] args) {
        capacityAtFirst();
        capacityArguments();
        capacityOfOne();
        capacityOfThirty();
        capacityThatIsTheSame();
        wakeBeforeTheCapacityChanges();
        fullBeforeAnEntryIsStored();
        fullTwiceInATick();
        noWakeIfTheStoreIsEmpty();
        deliveredInTheirOrder();
        energyOfAWake();
        ageAtLeastZero();
        ageOfTheOnlyEntry();
        sensorsInAscendingOrder();
        costsOfSamples();
        clientsInAscendingOrder();
        deadlineAtMostNow();
        deadlineInThePast();
        oneDeadlineWakeInATick();
        fullAndDeadlineInATick();
        firstInTheStoreIsToBlame();
        firstThatIsDueIsToBlame();
        onlyDeadlinesBlame();
        advanceArguments();
        endOfTime();
        wakesInTheseTicks();
        flushOfAnEmptyStore();
        flushOfAFullStore();
        countArguments();
        wakesArguments();
        entryArguments();
        entryOfAFullStore();
        deliveredArguments();
        latestSix();
        latestSixOfThirty();
        nextDeadlineOfAnEmptyStore();
        smallestDeadline();
        fiveHundredAndTwelveCalls();
        CHECK.finish();
    }

    private static void due(String call, int got, int want) {
        CHECK.due(call, got, want);
    }

    private static void capacityAtFirst() {
        CHECK.test("Entries: \"a capacity from 1 to 30 entries, at first 10\"");
        SensorHub x = Hubs.clockFor(400);
        due("capacity", x.count(5), 10);
        due("wakes until the tenth entry", x.advance(10), 0);
        due("entries", x.count(4), 10);
        due("a wake before the eleventh", x.advance(1), 1);
        due("full", x.wakes(1), 1);
        due("entries", x.count(4), 1);
    }

    private static void capacityArguments() {
        CHECK.test("promise 7: \"capacity: 1 to 30\"; \"Returns the previous capacity\"");
        SensorHub x = new SensorHub();
        due("0", x.setCapacity(0), Hubs.INVALID);
        due("-1", x.setCapacity(-1), Hubs.INVALID);
        due("31", x.setCapacity(31), Hubs.INVALID);
        due("capacity", x.count(5), 10);
        due("1", x.setCapacity(1), 10);
        due("30", x.setCapacity(30), 1);
        due("30 again", x.setCapacity(30), 30);
        due("capacity", x.count(5), 30);
    }

    private static void capacityOfOne() {
        CHECK.test("Entries: \"a capacity from 1\"");
        SensorHub x = Hubs.clockFor(400);
        x.setCapacity(1);
        due("the first entry", x.advance(1), 0);
        due("entries", x.count(4), 1);
        due("the second one", x.advance(1), 1);
        due("entries", x.count(4), 1);
        due("its stamp", x.entry(0, 1), 2);
        due("each further one", x.advance(10), 10);
        due("full", x.wakes(1), 11);
    }

    private static void capacityOfThirty() {
        CHECK.test("Entries: \"a capacity .. to 30 entries\"");
        SensorHub x = Hubs.clockFor(400);
        x.setCapacity(30);
        due("thirty", x.advance(30), 0);
        due("entries", x.count(4), 30);
        due("the thirtieth", x.entry(29, 1), 30);
        due("the next one", x.advance(1), 1);
        due("full", x.wakes(1), 1);
        due("entries", x.count(4), 1);
        due("delivered", x.client(0, 5), 30);
    }

    private static void capacityThatIsTheSame() {
        CHECK.test("promise 7: \"after a wake with the cause change\", also for the same capacity");
        SensorHub x = Hubs.clockFor(400);
        x.advance(2);
        due("the same", x.setCapacity(10), 10);
        due("change", x.wakes(2), 1);
        due("delivered", x.client(0, 5), 2);
        due("entries", x.count(4), 0);
        due("again, with an empty store", x.setCapacity(10), 10);
        due("change", x.wakes(2), 1);
    }

    private static void wakeBeforeTheCapacityChanges() {
        CHECK.test("promise 7: \"after a wake with the cause change\": a store with more entries than the new capacity");
        SensorHub x = Hubs.clockFor(400);
        x.advance(9);
        due("to 3", x.setCapacity(3), 10);
        due("change", x.wakes(2), 1);
        due("full", x.wakes(1), 0);
        due("delivered", x.client(0, 5), 9);
        due("three more", x.advance(3), 0);
        due("the fourth", x.advance(1), 1);
    }

    private static void fullBeforeAnEntryIsStored() {
        CHECK.test("Entries: \"If the store is full before an entry is stored, there is a wake .. first\"");
        SensorHub x = Hubs.clock();
        x.subscribe(0, 3, 400);
        x.setCapacity(2);
        // Entries at 1, 4, 7 and 10.
        due("a full store alone", x.advance(6), 0);
        due("entries", x.count(4), 2);
        due("the third entry", x.advance(1), 1);
        due("delivered before it", x.client(0, 5), 2);
        due("time of the delivery", x.delivered(0, 0, 2), 7);
        due("the third entry stays", x.entry(0, 1), 7);
    }

    private static void fullTwiceInATick() {
        CHECK.test("Entries: \"If the store is full before an entry is stored\": several times in a tick");
        SensorHub x = Hubs.clock();
        x.setCapacity(2);
        for (int number = 0; number < 7; number++) {
            x.subscribe(0, 400, 400);
        }
        due("wakes of seven entries", x.advance(1), 3);
        due("full", x.wakes(1), 3);
        due("entries", x.count(4), 1);
        due("the last one's client", x.entry(0, 0), 6);
        due("energy", x.count(6), 61);
    }

    private static void noWakeIfTheStoreIsEmpty() {
        CHECK.test("Entries: \"There is no wake if the store is empty\"");
        SensorHub x = Hubs.of("sensor 20 1 0 0 0 1;");
        x.subscribe(0, 20, 0);
        due("ticks without an entry", x.advance(19), 0);
        due("flush", x.flush(), Hubs.ILLEGAL);
        x.setCapacity(1);
        x.unsubscribe(0);
        for (int cause = 0; cause < 4; cause++) {
            due("wakes(" + cause + ")", x.wakes(cause), 0);
        }
        due("energy", x.count(6), 0);
    }

    private static void deliveredInTheirOrder() {
        CHECK.test("Entries: \"delivers all entries of the store to their clients, in their order, and empties\"");
        SensorHub x = Hubs.clock();
        x.subscribe(0, 1, 400);
        x.subscribe(0, 2, 400);
        x.advance(3);
        due("flush", x.flush(), 5);
        int[][] stamps = {{3, 2, 1, Hubs.NONE}, {3, 1, Hubs.NONE, Hubs.NONE}};
        for (int client = 0; client < 2; client++) {
            for (int index = 0; index < 4; index++) {
                due("stamp " + index + " of " + client, x.delivered(client, index, 0), stamps[client][index]);
            }
        }
        due("entries", x.count(4), 0);
        due("entry 0", x.entry(0, 0), Hubs.NONE);
        due("of the first client", x.client(0, 4), 0);
    }

    private static void energyOfAWake() {
        CHECK.test("Entries: \"its energy is 20\", for one entry and for many");
        SensorHub x = Hubs.clockFor(400);
        x.advance(1);
        x.flush();
        due("of one entry", x.count(6), 1 + 20);
        x.advance(10);
        x.setCapacity(10);
        due("of ten", x.count(6), 11 + 40);
        x.advance(11);
        due("full", x.count(6), 22 + 60);
    }

    private static void ageAtLeastZero() {
        CHECK.test("Entries: \"The age .. is now minus its stamp, but at least 0\"");
        SensorHub x = Hubs.of("sensor 1 1 0 0 0 1;sum 0 0;sum 0 0;sum 0 0;sum 0 0;sum 0 0;sum 0 0;sensor 10 1 1 0 9 1;");
        x.subscribe(7, 10, 400);
        // Late by 7, 4 and 1: received at 17, 24 and 31; the stamps are 17, 27 - 1 and 36 - 2.
        x.advance(17);
        x.flush();
        due("age 0", x.client(0, 7), 0);
        x.advance(7);
        due("stamp after now", x.entry(0, 1), 26);
        x.flush();
        due("age of a stamp after now", x.client(0, 7), 0);
        x.advance(7);
        due("stamp after now", x.entry(0, 1), 34);
        x.advance(4);
        x.flush();
        due("age at 35", x.client(0, 7), 1);
    }

    private static void ageOfTheOnlyEntry() {
        CHECK.test("promise 17: \"the greatest age of these\": 0 if the only one has a stamp after now");
        SensorHub x = Hubs.of("sensor 1 1 0 0 0 1;sum 0 0;sum 0 0;sensor 10 1 1 0 9 1;");
        // The sensor 3 is late by 3, 0, 7, 4, 1, ..: received at 13, 20, 37; the stamps are 13, 23 - 1 and 32 + 1.
        x.subscribe(3, 10, 400);
        x.advance(13);
        x.subscribe(3, 10, 400);
        due("no restart", x.count(7), 0);
        x.advance(7);
        due("stamp", x.entry(1, 1), 22);
        x.flush();
        due("age at 20", x.client(1, 7), 0);
        x.advance(17);
        due("stamp", x.entry(1, 1), 33);
        x.flush();
        due("age at 37", x.client(1, 7), 4);
    }

    private static void sensorsInAscendingOrder() {
        CHECK.test("Entries: \"The sensors that are on receive their samples, in ascending order of their numbers\"");
        SensorHub x = Hubs.of("sensor 1 1 1 0 0 1;sum 0 0;sum 1 1;sum 2 2;sum 3 3;sum 4 4;sum 5 5;sum 6 6;");
        x.subscribe(7, 1, 400);
        x.advance(1);
        due("one tick through all", x.sensor(7, 5), 128);
        x.advance(6);
        due("7 * 128", x.sensor(7, 5), 896);
        x.advance(1);
        due("8 * 128, modulo 1000", x.sensor(7, 5), 24);
    }

    private static void costsOfSamples() {
        CHECK.test("Entries: \"for each sample of a physical sensor .. its cost is added\": not of a derived one");
        SensorHub x = Hubs.of("sensor 2 1 0 0 0 7;mean 0 1;sum 0 1;sensor 3 1 0 0 0 50;");
        x.subscribe(2, 2, 400);
        x.advance(6);
        due("three samples of 7", x.count(6), 21);
    }

    private static void clientsInAscendingOrder() {
        CHECK.test("Entries: \"In ascending order of the clients, the entries of this tick are stored\"");
        SensorHub x = Hubs.of("sensor 1 1 0 100 0 1;sensor 1 1 0 200 0 1;");
        x.subscribe(1, 1, 400);
        x.subscribe(0, 1, 400);
        x.subscribe(1, 1, 400);
        x.unsubscribe(0);
        x.subscribe(0, 1, 400);
        x.advance(1);
        int[] values = {100, 100, 200};
        for (int i = 0; i < 3; i++) {
            due("client of " + i, x.entry(i, 0), i);
            due("value of " + i, x.entry(i, 2), values[i]);
        }
    }

    private static void deadlineAtMostNow() {
        CHECK.test("Entries: \"whose stamp plus D of its client is at most now\"");
        SensorHub x = Hubs.clock();
        x.subscribe(0, 20, 7);
        due("one tick before", x.advance(7), 0);
        due("entries", x.count(4), 1);
        due("in its tick", x.advance(1), 1);
        due("deadline", x.wakes(0), 1);
        due("age", x.client(0, 7), 7);
        due("no entry, no wake", x.advance(12), 0);
        due("the entry of 21", x.advance(7), 0);
        due("its deadline", x.advance(1), 1);
    }

    private static void deadlineInThePast() {
        CHECK.test("Entries: \"is at most now\": a stamp that is less than now when the entry is stored");
        // Late by 1, 8, ..: received at 11 and 28; the stamps are 11 and 21 + 7 / 4.
        SensorHub x = Hubs.of("sensor 1 1 0 0 0 1;sensor 10 1 1 0 9 1;");
        x.subscribe(1, 10, 3);
        due("the first entry", x.advance(13), 0);
        due("its deadline", x.advance(1), 1);
        due("before the second entry", x.advance(13), 0);
        due("22 + 3 is before 28", x.advance(1), 1);
        due("age", x.client(0, 7), 6);
    }

    private static void oneDeadlineWakeInATick() {
        CHECK.test("Entries: \"there is a wake with the cause deadline\": one for all entries that are due");
        SensorHub x = Hubs.clock();
        for (int number = 0; number < 4; number++) {
            x.subscribe(0, 1, 0);
        }
        due("wakes", x.advance(1), 1);
        due("blamed", x.client(0, 8), 1);
        for (int number = 1; number < 4; number++) {
            due("not blamed", x.client(number, 8), 0);
            due("delivered", x.client(number, 5), 1);
        }
    }

    private static void fullAndDeadlineInATick() {
        CHECK.test("Entries: the steps 2 and 3 of a tick: a wake for full, then one for the deadline");
        SensorHub x = Hubs.clock();
        x.setCapacity(2);
        x.subscribe(0, 1, 0);
        x.subscribe(0, 1, 0);
        x.subscribe(0, 1, 0);
        due("wakes", x.advance(1), 2);
        due("full", x.wakes(1), 1);
        due("deadline", x.wakes(0), 1);
        due("the one that was stored after the wake is to blame", x.client(2, 8), 1);
        due("not one that was delivered for full", x.client(0, 8), 0);
        SensorHub y = Hubs.clock();
        y.setCapacity(2);
        y.subscribe(0, 1, 0);
        y.subscribe(0, 1, 400);
        due("a store that is full at the deadline", y.advance(1), 1);
        due("full", y.wakes(1), 0);
    }

    private static void firstInTheStoreIsToBlame() {
        CHECK.test("Entries: \"Its first such entry (in the order of the store) is to blame\": not the smallest client");
        // Both have an entry of 1, due at 1; the client 1's of 21 and the client 0's of 26 are both due at 26.
        SensorHub x = Hubs.clock();
        x.subscribe(0, 25, 0);
        x.subscribe(0, 20, 5);
        x.advance(25);
        due("blamed at 1", x.client(0, 8), 1);
        due("entries", x.count(4), 1);
        due("the entry's client", x.entry(0, 0), 1);
        due("its stamp", x.entry(0, 1), 21);
        x.advance(1);
        due("the client of the first entry", x.client(1, 8), 1);
        due("not the smaller one", x.client(0, 8), 1);
        due("deadline", x.wakes(0), 2);
    }

    private static void firstThatIsDueIsToBlame() {
        CHECK.test("Entries: \"Its first such entry\": not the one with the smallest deadline, nor one that is not due");
        // The client 0's entry of 21 is due at 28; then the client 1 gets one with the stamp 22, due since 22.
        SensorHub x = Hubs.of("sensor 1 1 0 0 0 1;sensor 10 1 1 0 9 1;");
        x.subscribe(0, 20, 7);
        x.subscribe(1, 10, 0);
        x.advance(27);
        due("the entry of 21", x.nextDeadline(), 28);
        due("blamed at 8", x.client(0, 8), 1);
        due("blamed at 11", x.client(1, 8), 1);
        x.advance(1);
        due("the first one that is due", x.client(0, 8), 2);
        due("not the one due before", x.client(1, 8), 1);
        SensorHub y = Hubs.clock();
        y.subscribe(0, 1, 400);
        y.subscribe(0, 1, 0);
        y.advance(1);
        due("the first one, which is not due", y.client(0, 8), 0);
        due("the second one", y.client(1, 8), 1);
    }

    private static void onlyDeadlinesBlame() {
        CHECK.test("Entries: \"to blame\": nobody for the causes full, change and flush");
        SensorHub x = Hubs.clockFor(400);
        x.setCapacity(1);
        x.advance(5);
        x.flush();
        x.advance(1);
        x.setCapacity(2);
        due("full", x.wakes(1), 4);
        due("flush", x.wakes(3), 1);
        due("change", x.wakes(2), 1);
        due("blamed", x.client(0, 8), 0);
    }

    private static void advanceArguments() {
        CHECK.test("promise 11: \"ticks: 1 to 500\"");
        SensorHub x = new SensorHub();
        due("0", x.advance(0), Hubs.INVALID);
        due("-1", x.advance(-1), Hubs.INVALID);
        due("501", x.advance(501), Hubs.INVALID);
        due("now", x.count(0), 0);
        due("1", x.advance(1), 0);
        due("now", x.count(0), 1);
        due("500", x.advance(500), 0);
        due("now", x.count(0), 501);
    }

    private static void endOfTime() {
        CHECK.test("promise 11: \"CAPACITY_EXCEEDED if now would be greater than 9999\"");
        SensorHub x = Hubs.clockFor(0);
        Hubs.advanceTo(x, 9500);
        due("to 10000", x.advance(500), Hubs.NO_ROOM);
        due("now", x.count(0), 9500);
        due("a wrong number", x.advance(501), Hubs.INVALID);
        due("to 9999", x.advance(499), 499);
        due("now", x.count(0), 9999);
        due("to 10000", x.advance(1), Hubs.NO_ROOM);
        due("a wrong number", x.advance(0), Hubs.INVALID);
        due("now", x.count(0), 9999);
        due("samples", x.sensor(0, 3), 9999);
        due("energy", x.count(6), 9999 * 21);
    }

    private static void wakesInTheseTicks() {
        CHECK.test("promise 11: \"Returns the number of wakes in these ticks\": of both causes, and none before");
        SensorHub x = Hubs.clock();
        x.setCapacity(2);
        x.subscribe(0, 1, 400);
        x.subscribe(0, 5, 3);
        // The second client's entries come at 1 and 6. Full at 2, 4, 6 and 7; the deadlines are never reached.
        due("no wake", x.advance(1), 0);
        due("full at 2, 4, 6 and 7", x.advance(6), 4);
        x.setCapacity(30);
        due("change", x.wakes(2), 1);
        due("wakes at 14 only", x.advance(7), 1);
        due("deadline", x.wakes(0), 1);
    }

    private static void flushOfAnEmptyStore() {
        CHECK.test("promise 12: \"ILLEGAL_STATE if the store is empty\"");
        SensorHub x = Hubs.clockFor(400);
        due("at first", x.flush(), Hubs.ILLEGAL);
        x.advance(1);
        due("one entry", x.flush(), 1);
        due("after a flush", x.flush(), Hubs.ILLEGAL);
        due("flush", x.wakes(3), 1);
        due("energy", x.count(6), 21);
    }

    private static void flushOfAFullStore() {
        CHECK.test("promise 12: \"Returns the number of entries that are delivered\": of a full store");
        SensorHub x = Hubs.clockFor(400);
        x.setCapacity(30);
        x.advance(30);
        due("thirty", x.flush(), 30);
        due("full", x.wakes(1), 0);
        due("delivered", x.client(0, 5), 30);
    }

    private static void countArguments() {
        CHECK.test("promise 14: \"INVALID_ARGUMENT if what is out of range\"");
        SensorHub x = Hubs.clock();
        Hubs.write(x, "ab");
        due("-1", x.count(-1), Hubs.INVALID);
        due("10", x.count(10), Hubs.INVALID);
        due("0, the first", x.count(0), 0);
        due("9, the last", x.count(9), 2);
        due("8", x.count(8), 1);
    }

    private static void wakesArguments() {
        CHECK.test("promise 15: \"INVALID_ARGUMENT if cause is out of range\"");
        SensorHub x = Hubs.clockFor(0);
        x.advance(3);
        due("-1", x.wakes(-1), Hubs.INVALID);
        due("4", x.wakes(4), Hubs.INVALID);
        due("0, the first", x.wakes(0), 3);
        due("3, the last", x.wakes(3), 0);
        SensorHub y = Hubs.clockFor(400);
        y.advance(1);
        y.flush();
        due("3, the last", y.wakes(3), 1);
    }

    private static void entryArguments() {
        CHECK.test("promise 18: \"INVALID_ARGUMENT if index is negative or part is out of range\"; \"NONE if\" none");
        SensorHub x = Hubs.clockFor(400);
        due("of an empty store", x.entry(0, 0), Hubs.NONE);
        due("part 3 of an empty store", x.entry(0, 3), Hubs.INVALID);
        due("part -1 of an empty store", x.entry(0, -1), Hubs.INVALID);
        x.advance(3);
        due("-1", x.entry(-1, 0), Hubs.INVALID);
        due("part -1", x.entry(0, -1), Hubs.INVALID);
        due("part 3", x.entry(0, 3), Hubs.INVALID);
        due("the last one", x.entry(2, 1), 3);
        due("behind the last one", x.entry(3, 1), Hubs.NONE);
        due("behind the capacity", x.entry(10, 1), Hubs.NONE);
        due("30", x.entry(30, 1), Hubs.NONE);
        due("the greatest index", x.entry(Integer.MAX_VALUE, 2), Hubs.NONE);
        due("the greatest index and part 3", x.entry(Integer.MAX_VALUE, 3), Hubs.INVALID);
        x.flush();
        due("delivered ones", x.entry(0, 1), Hubs.NONE);
    }

    private static void entryOfAFullStore() {
        CHECK.test("promise 18: \"index in the order of the store, from 0\": 0 to 29");
        SensorHub x = Hubs.clockFor(400);
        x.setCapacity(30);
        x.advance(30);
        for (int index = 0; index < 30; index++) {
            due("stamp of " + index, x.entry(index, 1), index + 1);
        }
        due("30", x.entry(30, 1), Hubs.NONE);
        due("of its client", x.client(0, 4), 30);
    }

    private static void deliveredArguments() {
        CHECK.test("promise 19: \"INVALID_ARGUMENT if there is no such client or another argument is out of range\"");
        SensorHub x = Hubs.clockFor(0);
        due("none yet", x.delivered(0, 0, 0), Hubs.NONE);
        due("index 5, none yet", x.delivered(0, 5, 2), Hubs.NONE);
        due("index 6", x.delivered(0, 6, 0), Hubs.INVALID);
        due("index -1", x.delivered(0, -1, 0), Hubs.INVALID);
        due("part 3", x.delivered(0, 0, 3), Hubs.INVALID);
        due("part -1", x.delivered(0, 0, -1), Hubs.INVALID);
        due("client 1", x.delivered(1, 0, 0), Hubs.INVALID);
        due("client -1", x.delivered(-1, 0, 0), Hubs.INVALID);
        due("client 8", x.delivered(8, 0, 0), Hubs.INVALID);
        x.advance(9);
        due("index 6 of nine", x.delivered(0, 6, 0), Hubs.INVALID);
        due("index 5 of nine", x.delivered(0, 5, 0), 4);
    }

    private static void latestSix() {
        CHECK.test("promise 19: \"the latest 6 of them can be asked for\"; \"NONE if there is no such entry\"");
        SensorHub x = Hubs.of("sensor 1 1 2 0 0 1;");
        x.subscribe(0, 1, 0);
        for (int now = 1; now <= 8; now++) {
            x.advance(1);
            for (int index = 0; index < 6; index++) {
                boolean there = index < now;
                due("stamp " + index, x.delivered(0, index, 0), there ? now - index : Hubs.NONE);
                due("value " + index, x.delivered(0, index, 1), there ? 2 * (now - index) : Hubs.NONE);
                due("time " + index, x.delivered(0, index, 2), there ? now - index : Hubs.NONE);
            }
        }
    }

    private static void latestSixOfThirty() {
        CHECK.test("promise 19: \"the latest 6\" of a wake that delivers more; \"MISSING if it is missing\"");
        SensorHub x = Hubs.of("sensor 1 1 2 0 0 1;outage 0 28 28;");
        x.subscribe(0, 1, 400);
        x.setCapacity(30);
        x.advance(30);
        x.flush();
        int[] values = {60, 58, Hubs.MISSING, 54, 52, 50};
        for (int index = 0; index < 6; index++) {
            due("stamp " + index, x.delivered(0, index, 0), 30 - index);
            due("value " + index, x.delivered(0, index, 1), values[index]);
            due("time " + index, x.delivered(0, index, 2), 30);
        }
    }

    private static void nextDeadlineOfAnEmptyStore() {
        CHECK.test("promise 20: \"NONE if the store is empty\"");
        due("in a new hub", new SensorHub().nextDeadline(), Hubs.NONE);
        SensorHub x = Hubs.clockFor(5);
        due("before the first entry", x.nextDeadline(), Hubs.NONE);
        x.advance(1);
        due("one entry", x.nextDeadline(), 6);
        x.flush();
        due("after a flush", x.nextDeadline(), Hubs.NONE);
    }

    private static void smallestDeadline() {
        CHECK.test("promise 20: \"the smallest stamp plus D of the client of all entries\": first, last, in between");
        SensorHub x = Hubs.clock();
        x.subscribe(0, 400, 50);
        x.subscribe(0, 400, 40);
        x.subscribe(0, 400, 60);
        x.advance(1);
        due("in between", x.nextDeadline(), 41);
        x.subscribe(0, 400, 30);
        x.advance(1);
        due("the only one", x.nextDeadline(), 32);
        SensorHub y = Hubs.clock();
        y.subscribe(0, 400, 10);
        y.subscribe(0, 1, 12);
        y.advance(4);
        due("the first", y.nextDeadline(), 11);
        SensorHub z = Hubs.clock();
        z.subscribe(0, 400, 100);
        z.subscribe(0, 7, 90);
        z.subscribe(0, 3, 400);
        z.advance(1);
        due("the second", z.nextDeadline(), 91);
        SensorHub w = Hubs.clockFor(400);
        w.advance(1);
        due("the greatest delay", w.nextDeadline(), 401);
    }

    private static void fiveHundredAndTwelveCalls() {
        CHECK.test("What it is: \"An object is used for at most 512 calls after it has been made\": the last one counts");
        SensorHub x = new SensorHub();
        due("call 1", x.addSensor(1, 5, 1, 0, 0, 1), 0);
        due("call 2", x.subscribe(0, 1, 0), 0);
        for (int call = 3; call <= 511; call++) {
            due("call " + call, x.advance(1), 1);
        }
        due("call 512", x.count(0), 509);
    }
}
