/** What the tests of the boundary cases share: the document's codes, and hubs to begin with. */
final class Hubs {
    static final int INVALID = -1;
    static final int ILLEGAL = -2;
    static final int NO_ROOM = -3;
    static final int MISSING = -8;
    static final int NONE = -9;

    private Hubs() { }

    static void write(SensorHub x, String text) {
        for (int i = 0; i < text.length(); i++) {
            x.append(text.charAt(i));
        }
    }

    /** What load() of this text answers on a new hub. */
    static int load(String text) {
        SensorHub x = new SensorHub();
        write(x, text);
        return x.load();
    }

    static SensorHub of(String text) {
        SensorHub x = new SensorHub();
        write(x, text);
        if (x.load() < 0) {
            throw new IllegalStateException("not a hub: " + text);
        }
        return x;
    }

    /** A sensor that supports the period 1 alone, without jitter, whose value is the time; its cost is 1. */
    static SensorHub clock() {
        SensorHub x = new SensorHub();
        x.addSensor(1, 1, 1, 0, 0, 1);
        return x;
    }

    /** Such a clock with one client that takes all its samples. */
    static SensorHub clockFor(int delay) {
        SensorHub x = clock();
        x.subscribe(0, 1, delay);
        return x;
    }

    static void advanceTo(SensorHub x, int time) {
        while (x.count(0) < time) {
            x.advance(Math.min(500, time - x.count(0)));
        }
    }
}
