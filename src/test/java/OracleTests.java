import java.util.Random;

/**
 * Compares the program with the oracle over runs of calls that a fixed seed
 * makes, so that each run is the same each time.
 */
public final class OracleTests {
    private static final int CALLS = 512;
    private static final int[] EDGES = {Integer.MIN_VALUE, -1000, -2, -1, 0, 1, 2, 5, 7, 8, 9, 10, 20, 21, 30, 31,
        50, 51, 99, 100, 159, 160, 161, 255, 256, 399, 400, 401, 500, 501, 999, 1000, 9999, 10000, Integer.MAX_VALUE};

    /** What most of a run's calls are: 0 of all kinds, 1 long advances, 2 clients and time, 3 texts. */
    private final int style;
    private final Check check;
    private final Random random;
    private final SensorHub hub = new SensorHub();
    private final Oracle oracle = new Oracle();

    private OracleTests(Check check, long seed) {
        this.check = check;
        this.style = (int) (seed % 4);
        this.random = new Random(seed);
    }

    public static void main(String[] args) {
        Check check = new Check("OracleTests");
        int runs = args.length > 0 ? Integer.parseInt(args[0]) : 120;
        int first = args.length > 1 ? Integer.parseInt(args[1]) : 0;
        for (int seed = first; seed < first + runs; seed++) {
            check.test("run of seed " + seed);
            new OracleTests(check, seed).run();
        }
        check.finish();
    }

    private void run() {
        for (int call = 0; call < CALLS; call++) {
            if (style == 3 && random.nextInt(10) == 0) {
                text();
            }
            if (style != 2 || call < 40) {
                change(call < 12 && style != 3 ? random.nextInt(3) : random.nextInt(14));
            } else {
                change(3 + random.nextInt(11));
            }
            if (random.nextInt(8) == 0) {
                look();
            }
            if (random.nextInt(16) == 0) {
                forecast();
            }
            if (random.nextInt(64) == 0) {
                everything();
            }
        }
        everything();
    }

    /** A number that is mostly between least and greatest. */
    private int number(int least, int greatest) {
        int choice = random.nextInt(100);
        if (choice == 0) {
            return EDGES[random.nextInt(EDGES.length)];
        }
        if (choice == 1) {
            return random.nextBoolean() ? least - 1 : greatest + 1;
        }
        if (choice < 8) {
            return random.nextBoolean() ? least : greatest;
        }
        return least + random.nextInt(Math.max(1, greatest - least + 1));
    }

    private int aSensor() {
        return number(0, oracle.count(1) - 1);
    }

    private void change(int choice) {
        switch (choice) {
            case 0: addSensor(); break;
            case 1: addDerived(); break;
            case 2: addOutage(); break;
            case 3: case 4: case 5: subscribe(); break;
            case 6: unsubscribe(); break;
            case 7: setCapacity(); break;
            case 8: flush(); break;
            case 9: undo(); break;
            default: advance(); break;
        }
    }

    private void addSensor() {
        int q = number(1, random.nextBoolean() ? 4 : 20);
        int steps = number(1, 5);
        int slope = number(0, 99);
        int offset = number(0, 999);
        int jitter = number(0, Math.min(9, q - 1));
        int cost = number(1, 50);
        check.due("addSensor", hub.addSensor(q, steps, slope, offset, jitter, cost),
                oracle.addSensor(q, steps, slope, offset, jitter, cost));
    }

    private void addDerived() {
        int kind = number(0, 3);
        int first = aSensor();
        int second = kind == 3 ? number(1, 8) : aSensor();
        check.due("addDerived", hub.addDerived(kind, first, second), oracle.addDerived(kind, first, second));
    }

    private void addOutage() {
        int sensor = aSensor();
        int first = number(Math.min(oracle.count(0), 9999), Math.min(oracle.count(0) + 200, 9999));
        int last = number(first, Math.min(first + 100, 9999));
        check.due("addOutage", hub.addOutage(sensor, first, last), oracle.addOutage(sensor, first, last));
    }

    private void subscribe() {
        int sensor = aSensor();
        int period = number(1, random.nextInt(3) == 0 ? 400 : 40);
        int delay = number(0, random.nextInt(3) == 0 ? 400 : 60);
        check.due("subscribe(" + sensor + ", " + period + ")", hub.subscribe(sensor, period, delay),
                oracle.subscribe(sensor, period, delay));
    }

    private void unsubscribe() {
        int client = number(0, 7);
        check.due("unsubscribe", hub.unsubscribe(client), oracle.unsubscribe(client));
    }

    private void setCapacity() {
        int capacity = number(1, 30);
        check.due("setCapacity", hub.setCapacity(capacity), oracle.setCapacity(capacity));
    }

    private void flush() {
        check.due("flush", hub.flush(), oracle.flush());
    }

    private void undo() {
        for (int i = random.nextInt(3); i >= 0; i--) {
            check.due("undo", hub.undo(), oracle.undo());
        }
    }

    private void advance() {
        int ticks = number(1, style == 1 || random.nextInt(6) == 0 ? 500 : 50);
        check.due("advance", hub.advance(ticks), oracle.advance(ticks));
    }

    private void forecast() {
        int ticks = number(1, random.nextInt(4) == 0 ? 500 : 100);
        int cause = number(0, 1);
        check.due("forecastWakes", hub.forecastWakes(ticks, cause), oracle.forecastWakes(ticks, cause));
        check.due("smallestCapacity", hub.smallestCapacity(ticks), oracle.smallestCapacity(ticks));
        check.due("tightestClient", hub.tightestClient(ticks), oracle.tightestClient(ticks));
    }

    private void text() {
        if (random.nextInt(3) > 0) {
            check.due("clearText", hub.clearText(), oracle.clearText());
        }
        String text = damaged(someItems());
        for (int i = 0; i < text.length(); i++) {
            check.due("append", hub.append(text.charAt(i)), oracle.append(text.charAt(i)));
        }
        check.due("append", hub.append(0), oracle.append(0));
        check.due("load of \"" + text + "\"", hub.load(), oracle.load());
    }

    private String someItems() {
        StringBuilder text = new StringBuilder();
        int items = random.nextInt(11);
        for (int i = 0; i < items; i++) {
            text.append(spaces()).append(item(i)).append(spaces()).append(';');
        }
        return text.append(spaces()).toString();
    }

    private String item(int before) {
        int input = Math.max(1, before);
        switch (random.nextInt(before == 0 ? 2 : 7)) {
            case 0: case 1: case 2: {
                int q = 1 + random.nextInt(20);
                return joined("sensor", q, 1 + random.nextInt(5), random.nextInt(100), random.nextInt(1000),
                        random.nextInt(Math.min(10, q)), 1 + random.nextInt(50));
            }
            case 3: return joined("outage", random.nextInt(input), random.nextInt(9), random.nextInt(10000));
            case 4: return joined("mean", random.nextInt(input), 1 + random.nextInt(8));
            case 5: return joined("sum", random.nextInt(input), random.nextInt(input));
            default:
                return joined(random.nextBoolean() ? "diff" : "max", random.nextInt(input), random.nextInt(input));
        }
    }

    private String joined(String word, int... numbers) {
        StringBuilder text = new StringBuilder(word).append(spaces());
        for (int i = 0; i < numbers.length; i++) {
            text.append(i == 0 ? "" : " ").append(spaces()).append(numbers[i]);
        }
        return text.toString();
    }

    private String spaces() {
        return " ".repeat(random.nextInt(6) == 0 ? 2 : random.nextInt(7) == 0 ? 1 : 0);
    }

    private String damaged(String text) {
        if (random.nextInt(2) == 0 || text.isEmpty()) {
            return text;
        }
        int at = random.nextInt(text.length());
        String signs = "09;; azAZ~\u00e9\n{`/:1";
        char sign = signs.charAt(random.nextInt(signs.length()));
        switch (random.nextInt(4)) {
            case 0: return text.substring(0, at);
            case 1: return text.substring(0, at) + text.substring(at + 1);
            case 2: return text.substring(0, at) + sign + text.substring(at + 1);
            default: return text.substring(0, at) + sign + text.substring(at);
        }
    }

    private void look() {
        int what = number(0, 9);
        int which = number(0, 7);
        int part = number(0, 2);
        check.due("count", hub.count(what), oracle.count(what));
        check.due("wakes", hub.wakes(part), oracle.wakes(part));
        check.due("sensor", hub.sensor(which, what), oracle.sensor(which, what));
        check.due("client", hub.client(which, what), oracle.client(which, what));
        check.due("entry", hub.entry(which, part), oracle.entry(which, part));
        check.due("delivered", hub.delivered(which, what, part), oracle.delivered(which, what, part));
        check.due("nextDeadline", hub.nextDeadline(), oracle.nextDeadline());
    }

    private void everything() {
        for (int what = -1; what <= 10; what++) {
            check.due("count(" + what + ")", hub.count(what), oracle.count(what));
            check.due("wakes(" + what + ")", hub.wakes(what), oracle.wakes(what));
            for (int i = -1; i <= 8; i++) {
                check.due("sensor(" + i + ", " + what + ")", hub.sensor(i, what), oracle.sensor(i, what));
                check.due("client(" + i + ", " + what + ")", hub.client(i, what), oracle.client(i, what));
            }
        }
        for (int part = -1; part <= 3; part++) {
            for (int index = -1; index <= 31; index++) {
                check.due("entry(" + index + ", " + part + ")", hub.entry(index, part), oracle.entry(index, part));
            }
            for (int client = -1; client <= 8; client++) {
                for (int index = -1; index <= 6; index++) {
                    check.due("delivered(" + client + ", " + index + ", " + part + ")",
                            hub.delivered(client, index, part), oracle.delivered(client, index, part));
                }
            }
        }
        check.due("nextDeadline()", hub.nextDeadline(), oracle.nextDeadline());
    }
}
