/**
 * A simulator of a sensor hub. The document ../shared/DOC.md says in numbered
 * promises what each public method answers; README.md says how to use it.
 *
 * The state of the hub stands in one object, hub. Whatever must not change it
 * (a forecast, a text that is only being read) works on the second one, trial.
 */
public final class SensorHub {

    public static final int INVALID_ARGUMENT = -1;
    public static final int ILLEGAL_STATE = -2;
    public static final int CAPACITY_EXCEEDED = -3;
    public static final int MISSING = -8;
    public static final int NONE = -9;

    private static final int MAX_SENSORS = 8;
    private static final int MAX_OUTAGES = 4;
    private static final int MAX_CLIENTS = 8;
    private static final int MAX_ENTRIES = 30;
    private static final int MAX_STATES = 5;
    private static final int MAX_TEXT = 160;

    private static final int MAX_LEAST_PERIOD = 20;
    private static final int MAX_STEPS = 5;
    private static final int MAX_SLOPE = 99;
    private static final int MAX_OFFSET = 999;
    private static final int MAX_JITTER = 9;
    private static final int MAX_COST = 50;
    private static final int MAX_LENGTH = 8;
    private static final int MAX_PERIOD = 400;
    private static final int MAX_DELAY = 400;
    private static final int MAX_TICKS = 500;
    private static final int MAX_TIME = 9999;

    private static final int SUM = 0;
    private static final int DIFFERENCE = 1;
    private static final int GREATER = 2;
    private static final int MEAN = 3;
    private static final int PHYSICAL = 4;

    private static final int DEADLINE = 0;
    private static final int FULL = 1;
    private static final int CHANGE = 2;
    private static final int FLUSH = 3;
    private static final int CAUSES = 4;

    private static final int FIRST_CAPACITY = 10;
    private static final int WAKE_ENERGY = 20;
    private static final int MODULUS = 1000;
    private static final int MAX_RECALLED = 6;
    private static final int PARTS = 3;
    private static final int FIRST_ERROR = -10;

    private final Hub hub;
    private final Hub trial;
    private final History history;
    private final Text text;

    public SensorHub() {
        hub = new Hub();
        trial = new Hub();
        history = new History();
        text = new Text();
    }

    // ---- sensors and clients

    public int addSensor(int q, int steps, int slope, int offset, int jitter, int cost) {
        if (!isWithin(q, 1, MAX_LEAST_PERIOD) || !isWithin(steps, 1, MAX_STEPS)
                || !isWithin(slope, 0, MAX_SLOPE) || !isWithin(offset, 0, MAX_OFFSET)
                || !isWithin(jitter, 0, greatestJitter(q)) || !isWithin(cost, 1, MAX_COST)) {
            return INVALID_ARGUMENT;
        }
        if (hub.hasAllSensors()) {
            return CAPACITY_EXCEEDED;
        }
        history.record(hub);
        return hub.addPhysical(q, steps, slope, offset, jitter, cost);
    }

    public int addDerived(int kind, int first, int second) {
        if (!isWithin(kind, SUM, MEAN) || hub.sensorAt(first) == null
                || !hub.isSecond(kind, second)) {
            return INVALID_ARGUMENT;
        }
        if (hub.hasAllSensors()) {
            return CAPACITY_EXCEEDED;
        }
        history.record(hub);
        return hub.addComputed(kind, first, second);
    }

    public int addOutage(int sensor, int first, int last) {
        if (!hub.isPhysical(sensor) || !isWithin(first, 0, MAX_TIME)
                || !isWithin(last, first, MAX_TIME)) {
            return INVALID_ARGUMENT;
        }
        if (hub.outages.isFull()) {
            return CAPACITY_EXCEEDED;
        }
        history.record(hub);
        return hub.outages.add(sensor, first, last);
    }

    public int subscribe(int sensor, int period, int delay) {
        Sensor wanted = hub.sensorAt(sensor);
        if (wanted == null || !isWithin(period, 1, MAX_PERIOD) || !isWithin(delay, 0, MAX_DELAY)) {
            return INVALID_ARGUMENT;
        }
        if (period < wanted.least) {
            return ILLEGAL_STATE;
        }
        int number = hub.freeClientNumber();
        if (number == NONE) {
            return CAPACITY_EXCEEDED;
        }
        history.record(hub);
        hub.wake(CHANGE);
        hub.putClient(number, sensor, period, delay);
        return number;
    }

    public int unsubscribe(int client) {
        Client leaving = hub.clientAt(client);
        if (leaving == null) {
            return INVALID_ARGUMENT;
        }
        history.record(hub);
        hub.wake(CHANGE);
        hub.removeClient(leaving);
        return leaving.delivered;
    }

    public int setCapacity(int capacity) {
        if (!isWithin(capacity, 1, MAX_ENTRIES)) {
            return INVALID_ARGUMENT;
        }
        history.record(hub);
        hub.wake(CHANGE);
        int previous = hub.capacity;
        hub.capacity = capacity;
        return previous;
    }

    // ---- text

    public int append(int character) {
        if (!isWithin(character, 1, 255)) {
            return INVALID_ARGUMENT;
        }
        if (text.isFull()) {
            return CAPACITY_EXCEEDED;
        }
        return text.add(character);
    }

    public int clearText() {
        return text.clear();
    }

    public int load() {
        trial.clear();
        int items = text.read(trial);
        if (items < 0) {
            return items;
        }
        history.record(hub);
        hub.copyFrom(trial);
        text.clear();
        return items;
    }

    // ---- time

    public int advance(int ticks) {
        if (!isWithin(ticks, 1, MAX_TICKS)) {
            return INVALID_ARGUMENT;
        }
        if (hub.now + ticks > MAX_TIME) {
            return CAPACITY_EXCEEDED;
        }
        history.record(hub);
        int before = hub.allWakes();
        hub.runTicks(ticks);
        return hub.allWakes() - before;
    }

    public int flush() {
        if (hub.store.size == 0) {
            return ILLEGAL_STATE;
        }
        history.record(hub);
        return hub.wake(FLUSH);
    }

    public int undo() {
        if (history.size == 0) {
            return ILLEGAL_STATE;
        }
        return history.restore(hub);
    }

    // ---- looking

    public int count(int what) {
        switch (what) {
            case 0: return hub.now;
            case 1: return hub.sensorCount;
            case 2: return hub.clientCount();
            case 3: return hub.outages.size;
            case 4: return hub.store.size;
            case 5: return hub.capacity;
            case 6: return hub.energy;
            case 7: return hub.restart;
            case 8: return history.size;
            case 9: return text.size;
            default: return INVALID_ARGUMENT;
        }
    }

    public int wakes(int cause) {
        if (!isWithin(cause, DEADLINE, FLUSH)) {
            return INVALID_ARGUMENT;
        }
        return hub.wakesOf(cause);
    }

    public int sensor(int sensor, int what) {
        Sensor seen = hub.sensorAt(sensor);
        if (seen == null) {
            return INVALID_ARGUMENT;
        }
        switch (what) {
            case 0: return seen.kind;
            case 1: return seen.demand;
            case 2: return seen.period;
            case 3: return seen.samples;
            case 4: return seen.samples == 0 ? NONE : seen.stamp;
            case 5: return seen.samples == 0 ? NONE : seen.value;
            case 6: return seen.source;
            default: return INVALID_ARGUMENT;
        }
    }

    public int client(int client, int what) {
        Client seen = hub.clientAt(client);
        if (seen == null) {
            return INVALID_ARGUMENT;
        }
        switch (what) {
            case 0: return seen.sensor;
            case 1: return seen.period;
            case 2: return seen.delay;
            case 3: return seen.stride;
            case 4: return hub.store.entriesOf(client);
            case 5: return seen.delivered;
            case 6: return seen.missing;
            case 7: return seen.greatestAge;
            case 8: return seen.blamed;
            default: return INVALID_ARGUMENT;
        }
    }

    public int entry(int index, int part) {
        if (index < 0 || !isWithin(part, 0, PARTS - 1)) {
            return INVALID_ARGUMENT;
        }
        return hub.store.part(index, part);
    }

    public int delivered(int client, int index, int part) {
        Client seen = hub.clientAt(client);
        if (seen == null || !isWithin(index, 0, MAX_RECALLED - 1)
                || !isWithin(part, 0, PARTS - 1)) {
            return INVALID_ARGUMENT;
        }
        return seen.recalled(index, part);
    }

    public int nextDeadline() {
        return hub.earliestDeadline();
    }

    // ---- forecasts, which change nothing

    public int forecastWakes(int ticks, int cause) {
        if (!isWithin(ticks, 1, MAX_TICKS) || !isWithin(cause, DEADLINE, FULL)) {
            return INVALID_ARGUMENT;
        }
        trial.copyFrom(hub);
        trial.runTicks(ticks);
        return trial.wakesOf(cause) - hub.wakesOf(cause);
    }

    /*
     * One run is enough: until a store with a smaller capacity is full, all
     * goes as with the greatest one. So a capacity is enough if and only if the
     * store never holds more entries in the run with the greatest capacity.
     */
    public int smallestCapacity(int ticks) {
        if (!isWithin(ticks, 1, MAX_TICKS)) {
            return INVALID_ARGUMENT;
        }
        trial.copyFrom(hub);
        trial.capacity = MAX_ENTRIES;
        trial.runTicks(ticks);
        if (trial.wakesOf(FULL) > hub.wakesOf(FULL)) {
            return NONE;
        }
        return Math.max(1, trial.mostEntries);
    }

    public int tightestClient(int ticks) {
        if (!isWithin(ticks, 1, MAX_TICKS)) {
            return INVALID_ARGUMENT;
        }
        trial.copyFrom(hub);
        trial.runTicks(ticks);
        int fewest = trial.allWakes();
        int tightest = NONE;
        for (int number = 0; number < MAX_CLIENTS; number++) {
            trial.copyFrom(hub);
            Client relaxed = trial.clientAt(number);
            if (relaxed != null) {
                relaxed.delay = MAX_DELAY;
                trial.runTicks(ticks);
                if (trial.allWakes() < fewest) {
                    fewest = trial.allWakes();
                    tightest = number;
                }
            }
        }
        return tightest;
    }

    // ---- what several classes use

    private static boolean isWithin(int number, int least, int greatest) {
        return number >= least && number <= greatest;
    }

    private static int greatestJitter(int q) {
        return Math.min(MAX_JITTER, q - 1);
    }

    private static int quotient(int number, int divisor) {
        return divisor > 0 ? Math.floorDiv(number, divisor) : 0;
    }

    private static int remainder(int number, int divisor) {
        return divisor > 0 ? Math.floorMod(number, divisor) : 0;
    }

    /** A physical or derived sensor, with what it has received since the last restart. */
    private static final class Sensor {
        int kind;
        /** The smallest period that a client may ask for: the inputs set it too. */
        int least;
        int steps;
        int slope;
        int offset;
        int jitter;
        int cost;
        int first;
        /** The second input, or the length of a mean. */
        int second;
        int source;
        int demand;
        int period;
        int samples;
        /** Whether the latest sample is of this tick. */
        boolean fresh;
        int stamp;
        int value;
        /** How many samples were not missing; the latest ones of them stand in recent. */
        int valued;
        final int[] recent = new int[MAX_LENGTH];

        void becomePhysical(int q, int steps, int slope, int offset, int jitter, int cost) {
            this.kind = PHYSICAL;
            this.least = q;
            this.steps = steps;
            this.slope = slope;
            this.offset = offset;
            this.jitter = jitter;
            this.cost = cost;
        }

        void becomeComputed(int kind, int first, int second) {
            this.kind = kind;
            this.first = first;
            this.second = second;
        }

        void becomeIdle() {
            demand = NONE;
            period = NONE;
            forget();
        }

        void forget() {
            samples = 0;
            valued = 0;
            fresh = false;
        }

        void demandAtMost(int wanted) {
            if (demand == NONE || demand > wanted) {
                demand = wanted;
            }
        }

        int greatestSupported() {
            int greatest = least;
            for (int step = 1; step < steps && 2 * greatest <= demand; step++) {
                greatest = 2 * greatest;
            }
            return greatest;
        }

        int valueAt(int time) {
            return Math.floorMod(slope * time + offset, MODULUS);
        }

        int smoothedStamp(int received) {
            if (samples == 0) {
                return received;
            }
            int expected = stamp + period;
            return expected + Math.floorDiv(received - expected, 4);
        }

        void accept(int stamp, int value) {
            this.stamp = stamp;
            this.value = value;
            samples++;
            fresh = true;
            if (value != MISSING) {
                recent[Math.floorMod(valued, MAX_LENGTH)] = value;
                valued++;
            }
        }

        int meanOfLatest(int length) {
            int used = Math.min(Math.min(length, MAX_LENGTH), valued);
            int sum = 0;
            for (int back = 1; back <= used; back++) {
                sum += recent[Math.floorMod(valued - back, MAX_LENGTH)];
            }
            return used > 0 ? sum / used : MISSING;
        }

        void copyFrom(Sensor other) {
            kind = other.kind;
            least = other.least;
            steps = other.steps;
            slope = other.slope;
            offset = other.offset;
            jitter = other.jitter;
            cost = other.cost;
            first = other.first;
            second = other.second;
            source = other.source;
            demand = other.demand;
            period = other.period;
            samples = other.samples;
            fresh = other.fresh;
            stamp = other.stamp;
            value = other.value;
            valued = other.valued;
            System.arraycopy(other.recent, 0, recent, 0, MAX_LENGTH);
        }
    }

    /** A client, or the room for one, with what was delivered to it. */
    private static final class Client {
        boolean present;
        int sensor;
        int period;
        int delay;
        /** Its k: of so many samples it takes one. */
        int stride;
        /** The samples that its sensor has received since the client began to take some. */
        int offered;
        int delivered;
        int missing;
        int greatestAge;
        int blamed;
        /** The stamp, the value and the time of delivery of the latest entries. */
        final int[] latest = new int[MAX_RECALLED * PARTS];

        void begin(int sensor, int period, int delay) {
            this.sensor = sensor;
            this.period = period;
            this.delay = delay;
            present = true;
            stride = 0;
            offered = 0;
            delivered = 0;
            missing = 0;
            greatestAge = NONE;
            blamed = 0;
        }

        boolean takesNext() {
            return remainder(offered, stride) == 0;
        }

        void receive(int stamp, int value, int now) {
            int place = Math.floorMod(delivered, MAX_RECALLED) * PARTS;
            latest[place] = stamp;
            latest[place + 1] = value;
            latest[place + 2] = now;
            delivered++;
            if (value == MISSING) {
                missing++;
            }
            greatestAge = Math.max(greatestAge, Math.max(0, now - stamp));
        }

        int recalled(int index, int part) {
            if (index >= delivered || !isWithin(index, 0, MAX_RECALLED - 1)
                    || !isWithin(part, 0, PARTS - 1)) {
                return NONE;
            }
            return latest[Math.floorMod(delivered - 1 - index, MAX_RECALLED) * PARTS + part];
        }

        void copyFrom(Client other) {
            present = other.present;
            sensor = other.sensor;
            period = other.period;
            delay = other.delay;
            stride = other.stride;
            offered = other.offered;
            delivered = other.delivered;
            missing = other.missing;
            greatestAge = other.greatestAge;
            blamed = other.blamed;
            System.arraycopy(other.latest, 0, latest, 0, MAX_RECALLED * PARTS);
        }
    }

    /** The outages of all physical sensors. */
    private static final class Outages {
        int size;
        final int[] sensors = new int[MAX_OUTAGES];
        final int[] firsts = new int[MAX_OUTAGES];
        final int[] lasts = new int[MAX_OUTAGES];

        boolean isFull() {
            return size >= MAX_OUTAGES;
        }

        int add(int sensor, int first, int last) {
            if (isWithin(size, 0, MAX_OUTAGES - 1)) {
                sensors[size] = sensor;
                firsts[size] = first;
                lasts[size] = last;
                size++;
            }
            return size;
        }

        boolean cover(int sensor, int time) {
            for (int i = 0; i < size && i < MAX_OUTAGES; i++) {
                if (sensors[i] == sensor && isWithin(time, firsts[i], lasts[i])) {
                    return true;
                }
            }
            return false;
        }

        void copyFrom(Outages other) {
            size = other.size;
            System.arraycopy(other.sensors, 0, sensors, 0, MAX_OUTAGES);
            System.arraycopy(other.firsts, 0, firsts, 0, MAX_OUTAGES);
            System.arraycopy(other.lasts, 0, lasts, 0, MAX_OUTAGES);
        }
    }

    /** The shared store: of each entry its client, its stamp and its value. */
    private static final class Store {
        static final int CLIENT = 0;
        static final int STAMP = 1;
        static final int VALUE = 2;

        int size;
        final int[] entries = new int[MAX_ENTRIES * PARTS];

        void add(int client, int stamp, int value) {
            if (isWithin(size, 0, MAX_ENTRIES - 1)) {
                entries[size * PARTS + CLIENT] = client;
                entries[size * PARTS + STAMP] = stamp;
                entries[size * PARTS + VALUE] = value;
                size++;
            }
        }

        int part(int index, int part) {
            if (index >= size || !isWithin(index, 0, MAX_ENTRIES - 1)
                    || !isWithin(part, 0, PARTS - 1)) {
                return NONE;
            }
            return entries[index * PARTS + part];
        }

        int entriesOf(int client) {
            int found = 0;
            for (int i = 0; i < size; i++) {
                if (part(i, CLIENT) == client) {
                    found++;
                }
            }
            return found;
        }

        void copyFrom(Store other) {
            size = other.size;
            System.arraycopy(other.entries, 0, entries, 0, MAX_ENTRIES * PARTS);
        }
    }

    /** A state: all that undo brings back and that a forecast plays through. */
    private static final class Hub {
        int now;
        int restart;
        int energy;
        int capacity;
        int sensorCount;
        /** The most entries that the store held when one was stored, in the latest run of ticks. */
        int mostEntries;
        final int[] wakeCounts = new int[CAUSES];
        final Sensor[] sensors = new Sensor[MAX_SENSORS];
        final Client[] clients = new Client[MAX_CLIENTS];
        final Outages outages = new Outages();
        final Store store = new Store();

        Hub() {
            for (int i = 0; i < MAX_SENSORS; i++) {
                sensors[i] = new Sensor();
            }
            for (int i = 0; i < MAX_CLIENTS; i++) {
                clients[i] = new Client();
            }
            clear();
        }

        void clear() {
            now = 0;
            restart = 0;
            energy = 0;
            capacity = FIRST_CAPACITY;
            sensorCount = 0;
            outages.size = 0;
            store.size = 0;
            for (int cause = 0; cause < CAUSES; cause++) {
                wakeCounts[cause] = 0;
            }
            for (int number = 0; number < MAX_CLIENTS; number++) {
                Client client = clientRoom(number);
                if (client != null) {
                    client.present = false;
                }
            }
        }

        void copyFrom(Hub other) {
            now = other.now;
            restart = other.restart;
            energy = other.energy;
            capacity = other.capacity;
            sensorCount = other.sensorCount;
            System.arraycopy(other.wakeCounts, 0, wakeCounts, 0, CAUSES);
            outages.copyFrom(other.outages);
            store.copyFrom(other.store);
            for (int number = 0; number < MAX_SENSORS; number++) {
                Sensor sensor = sensorRoom(number);
                Sensor source = other.sensorRoom(number);
                if (sensor != null && source != null) {
                    sensor.copyFrom(source);
                }
            }
            for (int number = 0; number < MAX_CLIENTS; number++) {
                Client client = clientRoom(number);
                Client source = other.clientRoom(number);
                if (client != null && source != null) {
                    client.copyFrom(source);
                }
            }
        }

        private Sensor sensorRoom(int number) {
            return isWithin(number, 0, MAX_SENSORS - 1) ? sensors[number] : null;
        }

        private Client clientRoom(int number) {
            return isWithin(number, 0, MAX_CLIENTS - 1) ? clients[number] : null;
        }

        /** The sensor with this number, or null if there is none. */
        Sensor sensorAt(int number) {
            return number >= 0 && number < sensorCount && number < MAX_SENSORS ? sensors[number] : null;
        }

        /** The client with this number, or null if there is none. */
        Client clientAt(int number) {
            Client client = number >= 0 && number < MAX_CLIENTS ? clients[number] : null;
            return client != null && client.present ? client : null;
        }

        boolean hasAllSensors() {
            return sensorCount >= MAX_SENSORS;
        }

        boolean isPhysical(int number) {
            Sensor sensor = sensorAt(number);
            return sensor != null && sensor.kind == PHYSICAL;
        }

        boolean isSecond(int kind, int second) {
            return kind == MEAN ? isWithin(second, 1, MAX_LENGTH) : sensorAt(second) != null;
        }

        int addPhysical(int q, int steps, int slope, int offset, int jitter, int cost) {
            int number = sensorCount;
            Sensor sensor = sensorRoom(number);
            if (sensor != null) {
                sensor.becomePhysical(q, steps, slope, offset, jitter, cost);
                sensor.source = number;
                sensor.becomeIdle();
                sensorCount++;
            }
            return number;
        }

        int addComputed(int kind, int first, int second) {
            int number = sensorCount;
            Sensor sensor = sensorRoom(number);
            Sensor input = sensorAt(first);
            Sensor other = kind == MEAN ? input : sensorAt(second);
            if (sensor != null && input != null && other != null) {
                sensor.becomeComputed(kind, first, second);
                sensor.least = Math.max(input.least, other.least);
                sensor.source = input.source;
                sensor.becomeIdle();
                sensorCount++;
            }
            return number;
        }

        int clientCount() {
            int found = 0;
            for (int number = 0; number < MAX_CLIENTS; number++) {
                if (clientAt(number) != null) {
                    found++;
                }
            }
            return found;
        }

        int freeClientNumber() {
            for (int number = 0; number < MAX_CLIENTS; number++) {
                if (clientAt(number) == null) {
                    return number;
                }
            }
            return NONE;
        }

        void putClient(int number, int sensor, int period, int delay) {
            Client client = clientRoom(number);
            if (client != null) {
                client.begin(sensor, period, delay);
                settlePeriods();
            }
        }

        void removeClient(Client client) {
            client.present = false;
            settlePeriods();
        }

        private void settlePeriods() {
            setDemands();
            if (setPeriods()) {
                restartAll();
            }
            for (int number = 0; number < MAX_CLIENTS; number++) {
                Client client = clientAt(number);
                Sensor sensor = client == null ? null : sensorAt(client.sensor);
                if (client != null && sensor != null) {
                    client.stride = quotient(client.period, sensor.period);
                }
            }
        }

        private void setDemands() {
            for (int number = 0; number < MAX_SENSORS; number++) {
                Sensor sensor = sensorAt(number);
                if (sensor != null) {
                    sensor.demand = NONE;
                }
            }
            for (int number = 0; number < MAX_CLIENTS; number++) {
                Client client = clientAt(number);
                if (client != null) {
                    demandAtMost(client.sensor, client.period);
                }
            }
            // Inputs have smaller numbers: downwards, each demand is settled before it is passed on.
            for (int number = MAX_SENSORS - 1; number >= 0; number--) {
                Sensor sensor = sensorAt(number);
                if (sensor != null && sensor.kind != PHYSICAL && sensor.demand != NONE) {
                    demandAtMost(sensor.first, sensor.demand);
                    if (sensor.kind != MEAN) {
                        demandAtMost(sensor.second, sensor.demand);
                    }
                }
            }
        }

        private void demandAtMost(int number, int period) {
            Sensor sensor = sensorAt(number);
            if (sensor != null) {
                sensor.demandAtMost(period);
            }
        }

        /** Returns whether this changed something for a physical sensor. */
        private boolean setPeriods() {
            boolean changed = false;
            for (int number = 0; number < MAX_SENSORS; number++) {
                Sensor sensor = sensorAt(number);
                if (sensor != null) {
                    int before = sensor.period;
                    sensor.period = periodFor(sensor);
                    if (sensor.kind == PHYSICAL && sensor.period != before) {
                        changed = true;
                    }
                }
            }
            return changed;
        }

        private int periodFor(Sensor sensor) {
            if (sensor.demand == NONE) {
                return NONE;
            }
            if (sensor.kind == PHYSICAL) {
                return sensor.greatestSupported();
            }
            Sensor source = sensorAt(sensor.source);
            return source == null ? NONE : source.period;
        }

        private void restartAll() {
            restart = now;
            for (int number = 0; number < MAX_SENSORS; number++) {
                Sensor sensor = sensorAt(number);
                if (sensor != null) {
                    sensor.forget();
                }
            }
            for (int number = 0; number < MAX_CLIENTS; number++) {
                Client client = clientAt(number);
                if (client != null) {
                    client.offered = 0;
                }
            }
        }

        void runTicks(int ticks) {
            mostEntries = 0;
            for (int i = 0; i < ticks; i++) {
                now++;
                receiveSamples();
                storeEntries();
                wakeIfDue();
            }
        }

        private void receiveSamples() {
            for (int number = 0; number < MAX_SENSORS; number++) {
                Sensor sensor = sensorAt(number);
                if (sensor != null) {
                    sensor.fresh = false;
                    if (sensor.demand != NONE) {
                        receiveSample(number, sensor);
                    }
                }
            }
        }

        private void receiveSample(int number, Sensor sensor) {
            if (sensor.kind == PHYSICAL) {
                measure(number, sensor);
                return;
            }
            Sensor input = sensorAt(sensor.first);
            if (input != null && input.fresh) {
                sensor.accept(input.stamp, computedValue(sensor, input));
            }
        }

        private void measure(int number, Sensor sensor) {
            int time = restart + (sensor.samples + 1) * sensor.period;
            int lateness = remainder(7 * sensor.samples + number, sensor.jitter + 1);
            if (time + lateness == now) {
                energy += sensor.cost;
                int value = outages.cover(number, time) ? MISSING : sensor.valueAt(time);
                sensor.accept(sensor.smoothedStamp(now), value);
            }
        }

        private int computedValue(Sensor sensor, Sensor input) {
            if (input.value == MISSING) {
                return MISSING;
            }
            if (sensor.kind == MEAN) {
                return input.meanOfLatest(sensor.second);
            }
            Sensor other = sensorAt(sensor.second);
            if (other == null || other.samples == 0 || other.value == MISSING) {
                return MISSING;
            }
            switch (sensor.kind) {
                case SUM: return Math.floorMod(input.value + other.value, MODULUS);
                case DIFFERENCE: return Math.floorMod(input.value - other.value, MODULUS);
                default: return Math.max(input.value, other.value);
            }
        }

        private void storeEntries() {
            for (int number = 0; number < MAX_CLIENTS; number++) {
                Client client = clientAt(number);
                Sensor sensor = client == null ? null : sensorAt(client.sensor);
                if (client != null && sensor != null && sensor.fresh) {
                    if (client.takesNext()) {
                        storeEntry(number, sensor);
                    }
                    client.offered++;
                }
            }
        }

        private void storeEntry(int number, Sensor sensor) {
            if (store.size >= capacity) {
                wake(FULL);
            }
            store.add(number, sensor.stamp, sensor.value);
            mostEntries = Math.max(mostEntries, store.size);
        }

        private void wakeIfDue() {
            for (int index = 0; index < store.size; index++) {
                if (deadlineOf(index) <= now) {
                    Client client = clientAt(store.part(index, Store.CLIENT));
                    if (client != null) {
                        client.blamed++;
                    }
                    wake(DEADLINE);
                    return;
                }
            }
        }

        private int deadlineOf(int index) {
            Client client = clientAt(store.part(index, Store.CLIENT));
            int delay = client == null ? 0 : client.delay;
            return store.part(index, Store.STAMP) + delay;
        }

        int earliestDeadline() {
            if (store.size == 0) {
                return NONE;
            }
            int earliest = deadlineOf(0);
            for (int index = 1; index < store.size; index++) {
                earliest = Math.min(earliest, deadlineOf(index));
            }
            return earliest;
        }

        /** Returns the number of entries that were delivered; there is no wake without any. */
        int wake(int cause) {
            int entries = store.size;
            if (entries == 0 || !isWithin(cause, 0, CAUSES - 1)) {
                return 0;
            }
            for (int index = 0; index < entries; index++) {
                Client client = clientAt(store.part(index, Store.CLIENT));
                if (client != null) {
                    client.receive(store.part(index, Store.STAMP), store.part(index, Store.VALUE), now);
                }
            }
            store.size = 0;
            energy += WAKE_ENERGY;
            wakeCounts[cause]++;
            return entries;
        }

        int wakesOf(int cause) {
            return isWithin(cause, 0, CAUSES - 1) ? wakeCounts[cause] : 0;
        }

        int allWakes() {
            int sum = 0;
            for (int cause = 0; cause < CAUSES; cause++) {
                sum += wakeCounts[cause];
            }
            return sum;
        }
    }

    /** The latest states, in rows that are used in turn. */
    private static final class History {
        int size;
        /** The row that the next state goes to. */
        int next;
        final Hub[] states = new Hub[MAX_STATES];

        History() {
            for (int i = 0; i < MAX_STATES; i++) {
                states[i] = new Hub();
            }
        }

        void record(Hub hub) {
            Hub row = states[Math.floorMod(next, MAX_STATES)];
            if (row != null) {
                row.copyFrom(hub);
                next = Math.floorMod(next + 1, MAX_STATES);
                size = Math.min(size + 1, MAX_STATES);
            }
        }

        /** Returns the number of states that are left. */
        int restore(Hub hub) {
            int latest = Math.floorMod(next - 1, MAX_STATES);
            Hub row = states[latest];
            if (size > 0 && row != null) {
                hub.copyFrom(row);
                next = latest;
                size--;
            }
            return size;
        }
    }

    /**
     * The text, and the reading of it token by token. Once a token is not
     * allowed, reading stands still, so that start remains the error position;
     * the end of the text is a token too, whose start is the length of the text.
     */
    private static final class Text {
        static final int END = 0;
        static final int WORD = 1;
        static final int NUMBER = 2;
        static final int OTHER = 3;
        static final int MAX_DIGITS = 4;

        int size;
        final int[] codes = new int[MAX_TEXT];
        boolean failed;
        int type;
        int start;
        /** The offset behind the token. */
        int behind;

        boolean isFull() {
            return size >= MAX_TEXT;
        }

        int add(int code) {
            if (isWithin(size, 0, MAX_TEXT - 1)) {
                codes[size] = code;
                size++;
            }
            return size;
        }

        int clear() {
            int previous = size;
            size = 0;
            return previous;
        }

        /** The code at this offset, or 0, which no character has, if the text does not go so far. */
        int codeAt(int offset) {
            return offset >= 0 && offset < size && offset < MAX_TEXT ? codes[offset] : 0;
        }

        /** Returns the number of items, or FIRST_ERROR minus the error position. */
        int read(Hub hub) {
            failed = false;
            behind = 0;
            int items = 0;
            nextToken();
            while (!failed && type != END && items < MAX_TEXT) {
                readItem(hub);
                nextToken();
                items++;
            }
            return failed ? FIRST_ERROR - start : items;
        }

        private void readItem(Hub hub) {
            if (isWord("sensor")) {
                readPhysical(hub);
            } else if (isWord("sum")) {
                readComputed(hub, SUM);
            } else if (isWord("diff")) {
                readComputed(hub, DIFFERENCE);
            } else if (isWord("max")) {
                readComputed(hub, GREATER);
            } else if (isWord("mean")) {
                readComputed(hub, MEAN);
            } else if (isWord("outage")) {
                readOutage(hub);
            } else {
                failed = true;
            }
        }

        private void readPhysical(Hub hub) {
            failed = hub.hasAllSensors();
            int q = readNumber(1, MAX_LEAST_PERIOD);
            int steps = readNumber(1, MAX_STEPS);
            int slope = readNumber(0, MAX_SLOPE);
            int offset = readNumber(0, MAX_OFFSET);
            int jitter = readNumber(0, greatestJitter(q));
            int cost = readNumber(1, MAX_COST);
            readEndOfItem();
            if (!failed) {
                hub.addPhysical(q, steps, slope, offset, jitter, cost);
            }
        }

        private void readComputed(Hub hub, int kind) {
            failed = hub.hasAllSensors();
            int first = readNumber(0, hub.sensorCount - 1);
            int second = kind == MEAN ? readNumber(1, MAX_LENGTH) : readNumber(0, hub.sensorCount - 1);
            readEndOfItem();
            if (!failed) {
                hub.addComputed(kind, first, second);
            }
        }

        private void readOutage(Hub hub) {
            failed = hub.outages.isFull();
            int sensor = readNumber(0, hub.sensorCount - 1);
            failed = failed || !hub.isPhysical(sensor);
            int first = readNumber(0, MAX_TIME);
            int last = readNumber(first, MAX_TIME);
            readEndOfItem();
            if (!failed) {
                hub.outages.add(sensor, first, last);
            }
        }

        /** Reads a number of this range; what it returns otherwise is of no use. */
        private int readNumber(int least, int greatest) {
            nextToken();
            int number = type == NUMBER ? numberOfToken() : NONE;
            if (number < 0 || !isWithin(number, least, greatest)) {
                failed = true;
            }
            return number;
        }

        private void readEndOfItem() {
            nextToken();
            if (codeAt(start) != ';') {
                failed = true;
            }
        }

        private void nextToken() {
            if (failed) {
                return;
            }
            while (behind < size && codeAt(behind) == ' ') {
                behind++;
            }
            start = behind;
            type = typeOf(codeAt(start));
            if (type != END) {
                behind++;
            }
            boolean isRun = type == WORD || type == NUMBER;
            while (isRun && behind < size && typeOf(codeAt(behind)) == type) {
                behind++;
            }
        }

        private static int typeOf(int code) {
            if (code == 0) {
                return END;
            }
            if (code >= 'a' && code <= 'z') {
                return WORD;
            }
            return code >= '0' && code <= '9' ? NUMBER : OTHER;
        }

        /** The number that stands there, or NONE if numbers are not written so. */
        private int numberOfToken() {
            int digits = behind - start;
            if (digits > MAX_DIGITS || digits > 1 && codeAt(start) == '0') {
                return NONE;
            }
            int number = 0;
            for (int i = start; i < behind; i++) {
                number = 10 * number + codeAt(i) - '0';
            }
            return number;
        }

        private boolean isWord(String word) {
            if (type != WORD || behind - start != word.length()) {
                return false;
            }
            for (int i = 0; i < word.length(); i++) {
                if (codeAt(start + i) != word.charAt(i)) {
                    return false;
                }
            }
            return true;
        }
    }
}
