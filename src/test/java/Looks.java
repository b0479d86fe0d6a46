/** All that can be looked at in a hub, in few calls: an object is used for at most 512 of them. */
final class Looks {
    private Looks() { }

    /** All but the number of states in the history and the length of the text. */
    static String at(SensorHub x) {
        StringBuilder all = new StringBuilder();
        for (int what = 0; what <= 7; what++) {
            all.append(' ').append(x.count(what));
        }
        for (int cause = 0; cause <= 3; cause++) {
            all.append(' ').append(x.wakes(cause));
        }
        for (int number = 0; number < x.count(1); number++) {
            for (int what = 0; what <= 6; what++) {
                all.append(' ').append(x.sensor(number, what));
            }
        }
        for (int number = 0; number < 8; number++) {
            client(x, number, all);
        }
        for (int index = 0; index < x.count(4); index++) {
            for (int part = 0; part < 3; part++) {
                all.append(' ').append(x.entry(index, part));
            }
        }
        return all.append(' ').append(x.nextDeadline()).toString();
    }

    private static void client(SensorHub x, int number, StringBuilder all) {
        all.append(' ').append(x.client(number, 0));
        if (x.client(number, 0) < 0) {
            return;
        }
        for (int what = 1; what <= 8; what++) {
            all.append(' ').append(x.client(number, what));
        }
        for (int index = 0; index < 6 && x.delivered(number, index, 0) != Hubs.NONE; index++) {
            for (int part = 0; part < 3; part++) {
                all.append(' ').append(x.delivered(number, index, part));
            }
        }
    }
}
