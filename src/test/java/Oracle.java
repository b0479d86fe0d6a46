import java.util.ArrayList;
import java.util.List;
import java.util.regex.Matcher;
import java.util.regex.Pattern;

/**
 * The document once more, written in another way than the program: it keeps
 * every sample and every delivered entry in lists, computes demands, periods
 * and values anew each time, and tries every capacity. OracleTests compares
 * the two.
 */
final class Oracle {
    private static final int INVALID = -1;
    private static final int ILLEGAL = -2;
    private static final int NO_ROOM = -3;
    private static final int MISSING = -8;
    private static final int NONE = -9;

    /** args of a physical sensor: q, steps, slope, offset, jitter, cost; of another: first, second. */
    private record Spec(int kind, List<Integer> args) { }

    private record Sample(int received, int stamp, int value) { }

    private record Outage(int sensor, int first, int last) { }

    private record Entry(int client, int stamp, int value) { }

    private record Delivery(int stamp, int value, int time) { }

    private static final class Member {
        int sensor;
        int period;
        int delay;
        int since;
        int blamed;
        List<Delivery> deliveries = new ArrayList<>();

        Member copy() {
            Member copy = new Member();
            copy.sensor = sensor;
            copy.period = period;
            copy.delay = delay;
            copy.since = since;
            copy.blamed = blamed;
            copy.deliveries = new ArrayList<>(deliveries);
            return copy;
        }
    }

    private static final class State {
        int now;
        int restart;
        int energy;
        int capacity = 10;
        int[] wakes = new int[4];
        List<Spec> specs = new ArrayList<>();
        List<List<Sample>> samples = new ArrayList<>();
        List<Outage> outages = new ArrayList<>();
        Member[] members = new Member[8];
        List<Entry> store = new ArrayList<>();

        State copy() {
            State copy = new State();
            copy.now = now;
            copy.restart = restart;
            copy.energy = energy;
            copy.capacity = capacity;
            copy.wakes = wakes.clone();
            copy.specs = new ArrayList<>(specs);
            for (List<Sample> list : samples) {
                copy.samples.add(new ArrayList<>(list));
            }
            copy.outages = new ArrayList<>(outages);
            for (int i = 0; i < 8; i++) {
                copy.members[i] = members[i] == null ? null : members[i].copy();
            }
            copy.store = new ArrayList<>(store);
            return copy;
        }

        void add(Spec spec) {
            specs.add(spec);
            samples.add(new ArrayList<>());
        }

        boolean has(int sensor) {
            return 0 <= sensor && sensor < specs.size();
        }

        boolean hasPhysical(int sensor) {
            return has(sensor) && specs.get(sensor).kind == 4;
        }

        int source(int sensor) {
            Spec spec = specs.get(sensor);
            return spec.kind == 4 ? sensor : source(spec.args.get(0));
        }

        int demand(int sensor) {
            int[] least = new int[specs.size()];
            java.util.Arrays.fill(least, Integer.MAX_VALUE);
            for (Member member : members) {
                if (member != null) {
                    least[member.sensor] = Math.min(least[member.sensor], member.period);
                }
            }
            for (int other = specs.size() - 1; other > sensor; other--) {
                Spec spec = specs.get(other);
                int inputs = spec.kind == 4 ? 0 : spec.kind == 3 ? 1 : 2;
                for (int input : spec.args.subList(0, inputs)) {
                    least[input] = Math.min(least[input], least[other]);
                }
            }
            return least[sensor] == Integer.MAX_VALUE ? NONE : least[sensor];
        }

        int period(int sensor) {
            int demand = demand(sensor);
            if (demand == NONE) {
                return NONE;
            }
            Spec spec = specs.get(sensor);
            if (spec.kind != 4) {
                return period(source(sensor));
            }
            int best = NONE;
            for (int step = 0; step < spec.args.get(1); step++) {
                int supported = spec.args.get(0) << step;
                if (supported <= demand) {
                    best = Math.max(best, supported);
                }
            }
            return best;
        }

        List<Integer> physicalPeriods() {
            List<Integer> periods = new ArrayList<>();
            for (int sensor = 0; sensor < specs.size(); sensor++) {
                periods.add(hasPhysical(sensor) ? period(sensor) : 0);
            }
            return periods;
        }

        boolean asksTooMuch() {
            for (int sensor = 0; sensor < specs.size(); sensor++) {
                if (hasPhysical(sensor) && demand(sensor) != NONE
                        && demand(sensor) < specs.get(sensor).args.get(0)) {
                    return true;
                }
            }
            return false;
        }

        void restartIfChanged(List<Integer> before) {
            if (physicalPeriods().equals(before)) {
                return;
            }
            restart = now;
            for (List<Sample> list : samples) {
                list.clear();
            }
            for (Member member : members) {
                if (member != null) {
                    member.since = 0;
                }
            }
        }

        Sample latest(int sensor) {
            List<Sample> list = samples.get(sensor);
            return list.isEmpty() ? null : list.get(list.size() - 1);
        }

        boolean received(int sensor) {
            Sample sample = latest(sensor);
            return sample != null && sample.received == now;
        }

        void receive(int sensor) {
            Spec spec = specs.get(sensor);
            if (demand(sensor) == NONE) {
                return;
            }
            if (spec.kind == 4) {
                receivePhysical(sensor, spec.args);
            } else if (received(spec.args.get(0))) {
                int stamp = latest(spec.args.get(0)).stamp;
                samples.get(sensor).add(new Sample(now, stamp, computed(spec)));
            }
        }

        void receivePhysical(int sensor, List<Integer> args) {
            int i = samples.get(sensor).size();
            int period = period(sensor);
            int time = restart + (i + 1) * period;
            if (now != time + (7 * i + sensor) % (args.get(4) + 1)) {
                return;
            }
            energy += args.get(5);
            int value = (args.get(2) * time + args.get(3)) % 1000;
            for (Outage outage : outages) {
                if (outage.sensor == sensor && outage.first <= time && time <= outage.last) {
                    value = MISSING;
                }
            }
            int stamp = now;
            if (i > 0) {
                int expected = latest(sensor).stamp + period;
                stamp = expected + (int) Math.floor((now - expected) / 4.0);
            }
            samples.get(sensor).add(new Sample(now, stamp, value));
        }

        int computed(Spec spec) {
            int x = latest(spec.args.get(0)).value;
            if (x == MISSING) {
                return MISSING;
            }
            if (spec.kind == 3) {
                return mean(samples.get(spec.args.get(0)), spec.args.get(1));
            }
            Sample second = latest(spec.args.get(1));
            if (second == null || second.value == MISSING) {
                return MISSING;
            }
            int y = second.value;
            return spec.kind == 0 ? (x + y) % 1000 : spec.kind == 1 ? (x - y + 1000) % 1000 : Math.max(x, y);
        }

        static int mean(List<Sample> samples, int length) {
            List<Integer> values = new ArrayList<>();
            for (Sample sample : samples) {
                if (sample.value != MISSING) {
                    values.add(sample.value);
                }
            }
            List<Integer> used = values.subList(Math.max(0, values.size() - length), values.size());
            return used.stream().mapToInt(Integer::intValue).sum() / used.size();
        }

        int tick() {
            now++;
            int wakesNow = 0;
            for (int sensor = 0; sensor < specs.size(); sensor++) {
                receive(sensor);
            }
            for (int client = 0; client < 8; client++) {
                Member member = members[client];
                if (member == null || !received(member.sensor)) {
                    continue;
                }
                int k = member.period / period(member.sensor);
                if (member.since++ % k != 0) {
                    continue;
                }
                if (store.size() >= capacity) {
                    wakesNow += wake(1);
                }
                Sample sample = latest(member.sensor);
                store.add(new Entry(client, sample.stamp, sample.value));
            }
            for (Entry entry : store) {
                if (entry.stamp + members[entry.client].delay <= now) {
                    members[entry.client].blamed++;
                    return wakesNow + wake(0);
                }
            }
            return wakesNow;
        }

        int wake(int cause) {
            if (store.isEmpty()) {
                return 0;
            }
            for (Entry entry : store) {
                members[entry.client].deliveries.add(new Delivery(entry.stamp, entry.value, now));
            }
            store = new ArrayList<>();
            energy += 20;
            wakes[cause]++;
            return 1;
        }

        int run(int ticks) {
            int sum = 0;
            for (int i = 0; i < ticks; i++) {
                sum += tick();
            }
            return sum;
        }
    }

    private State state = new State();
    private final List<State> history = new ArrayList<>();
    private String text = "";

    private void record() {
        history.add(state.copy());
        if (history.size() > 5) {
            history.remove(0);
        }
    }

    private static boolean out(int number, int least, int greatest) {
        return number < least || number > greatest;
    }

    int addSensor(int q, int steps, int slope, int offset, int jitter, int cost) {
        if (out(q, 1, 20) || out(steps, 1, 5) || out(slope, 0, 99) || out(offset, 0, 999)
                || out(jitter, 0, 9) || jitter >= q || out(cost, 1, 50)) {
            return INVALID;
        }
        if (state.specs.size() == 8) {
            return NO_ROOM;
        }
        record();
        state.add(new Spec(4, List.of(q, steps, slope, offset, jitter, cost)));
        return state.specs.size() - 1;
    }

    int addDerived(int kind, int first, int second) {
        if (out(kind, 0, 3) || !state.has(first) || kind == 3 && out(second, 1, 8)
                || kind != 3 && !state.has(second)) {
            return INVALID;
        }
        if (state.specs.size() == 8) {
            return NO_ROOM;
        }
        record();
        state.add(new Spec(kind, List.of(first, second)));
        return state.specs.size() - 1;
    }

    int addOutage(int sensor, int first, int last) {
        if (!state.hasPhysical(sensor) || out(first, 0, 9999) || out(last, first, 9999)) {
            return INVALID;
        }
        if (state.outages.size() == 4) {
            return NO_ROOM;
        }
        record();
        state.outages.add(new Outage(sensor, first, last));
        return state.outages.size();
    }

    int subscribe(int sensor, int period, int delay) {
        if (!state.has(sensor) || out(period, 1, 400) || out(delay, 0, 400)) {
            return INVALID;
        }
        Member member = new Member();
        member.sensor = sensor;
        member.period = period;
        member.delay = delay;
        State tried = state.copy();
        tried.members = java.util.Arrays.copyOf(tried.members, 9);
        tried.members[8] = member;
        if (tried.asksTooMuch()) {
            return ILLEGAL;
        }
        int number = java.util.Arrays.asList(state.members).indexOf(null);
        if (number < 0) {
            return NO_ROOM;
        }
        record();
        state.wake(2);
        List<Integer> before = state.physicalPeriods();
        state.members[number] = member;
        state.restartIfChanged(before);
        return number;
    }

    private Member member(int client) {
        return out(client, 0, 7) ? null : state.members[client];
    }

    int unsubscribe(int client) {
        if (member(client) == null) {
            return INVALID;
        }
        record();
        state.wake(2);
        List<Integer> before = state.physicalPeriods();
        int delivered = member(client).deliveries.size();
        state.members[client] = null;
        state.restartIfChanged(before);
        return delivered;
    }

    int setCapacity(int capacity) {
        if (out(capacity, 1, 30)) {
            return INVALID;
        }
        record();
        state.wake(2);
        int previous = state.capacity;
        state.capacity = capacity;
        return previous;
    }

    int append(int character) {
        if (out(character, 1, 255)) {
            return INVALID;
        }
        if (text.length() == 160) {
            return NO_ROOM;
        }
        text = text + (char) character;
        return text.length();
    }

    int clearText() {
        int length = text.length();
        text = "";
        return length;
    }

    int load() {
        State loaded = new State();
        int items = read(loaded);
        if (items < 0) {
            return items;
        }
        record();
        state = loaded;
        text = "";
        return items;
    }

    private static final Pattern TOKEN = Pattern.compile("[a-z]+|[0-9]+|[^a-z0-9 ]", Pattern.DOTALL);

    private int read(State loaded) {
        List<String> tokens = new ArrayList<>();
        List<Integer> places = new ArrayList<>();
        Matcher matcher = TOKEN.matcher(text);
        while (matcher.find()) {
            tokens.add(matcher.group());
            places.add(matcher.start());
        }
        places.add(text.length());
        int items = 0;
        int at = 0;
        while (at < tokens.size()) {
            String word = tokens.get(at);
            int kind = List.of("sum", "diff", "max", "mean", "sensor", "outage").indexOf(word);
            boolean full = kind == 5 ? loaded.outages.size() == 4 : loaded.specs.size() == 8;
            if (kind < 0 || full) {
                return -10 - places.get(at);
            }
            int wanted = kind == 4 ? 6 : kind == 5 ? 3 : 2;
            List<Integer> numbers = new ArrayList<>();
            for (int i = 0; i < wanted; i++) {
                at++;
                if (at >= tokens.size() || !tokens.get(at).matches("0|[1-9][0-9]{0,3}")) {
                    return -10 - places.get(at);
                }
                numbers.add(Integer.parseInt(tokens.get(at)));
                if (!allowed(loaded, kind, numbers)) {
                    return -10 - places.get(at);
                }
            }
            at++;
            if (at >= tokens.size() || !tokens.get(at).equals(";")) {
                return -10 - places.get(at);
            }
            at++;
            items++;
            if (kind == 5) {
                loaded.outages.add(new Outage(numbers.get(0), numbers.get(1), numbers.get(2)));
            } else {
                loaded.add(new Spec(kind, numbers));
            }
        }
        return items;
    }

    /** Whether the last one of these numbers of an item may stand where it stands. */
    private static boolean allowed(State loaded, int kind, List<Integer> numbers) {
        int i = numbers.size() - 1;
        int number = numbers.get(i);
        if (kind == 4) {
            int[] least = {1, 1, 0, 0, 0, 1};
            int[] greatest = {20, 5, 99, 999, 9, 50};
            return !out(number, least[i], greatest[i]) && (i != 4 || number < numbers.get(0));
        }
        if (kind == 5) {
            return i == 0 ? loaded.hasPhysical(number) : i == 1 || number >= numbers.get(1);
        }
        return kind == 3 && i == 1 ? !out(number, 1, 8) : loaded.has(number);
    }

    int advance(int ticks) {
        if (out(ticks, 1, 500)) {
            return INVALID;
        }
        if (state.now + ticks > 9999) {
            return NO_ROOM;
        }
        record();
        return state.run(ticks);
    }

    int flush() {
        if (state.store.isEmpty()) {
            return ILLEGAL;
        }
        record();
        int entries = state.store.size();
        state.wake(3);
        return entries;
    }

    int undo() {
        if (history.isEmpty()) {
            return ILLEGAL;
        }
        state = history.remove(history.size() - 1);
        return history.size();
    }

    int count(int what) {
        int clients = 0;
        for (Member member : state.members) {
            clients += member == null ? 0 : 1;
        }
        int[] numbers = {state.now, state.specs.size(), clients, state.outages.size(), state.store.size(),
            state.capacity, state.energy, state.restart, history.size(), text.length()};
        return out(what, 0, 9) ? INVALID : numbers[what];
    }

    int wakes(int cause) {
        return out(cause, 0, 3) ? INVALID : state.wakes[cause];
    }

    int sensor(int sensor, int what) {
        if (!state.has(sensor) || out(what, 0, 6)) {
            return INVALID;
        }
        Sample latest = state.latest(sensor);
        int[] properties = {state.specs.get(sensor).kind, state.demand(sensor), state.period(sensor),
            state.samples.get(sensor).size(), latest == null ? NONE : latest.stamp,
            latest == null ? NONE : latest.value, state.source(sensor)};
        return properties[what];
    }

    int client(int client, int what) {
        Member member = member(client);
        if (member == null || out(what, 0, 8)) {
            return INVALID;
        }
        int stored = 0;
        for (Entry entry : state.store) {
            stored += entry.client == client ? 1 : 0;
        }
        int missing = 0;
        int oldest = NONE;
        for (Delivery delivery : member.deliveries) {
            missing += delivery.value == MISSING ? 1 : 0;
            oldest = Math.max(oldest, Math.max(0, delivery.time - delivery.stamp));
        }
        int[] properties = {member.sensor, member.period, member.delay,
            member.period / state.period(member.sensor), stored, member.deliveries.size(), missing, oldest,
            member.blamed};
        return properties[what];
    }

    int entry(int index, int part) {
        if (index < 0 || out(part, 0, 2)) {
            return INVALID;
        }
        if (index >= state.store.size()) {
            return NONE;
        }
        Entry entry = state.store.get(index);
        return part == 0 ? entry.client : part == 1 ? entry.stamp : entry.value;
    }

    int delivered(int client, int index, int part) {
        Member member = member(client);
        if (member == null || out(index, 0, 5) || out(part, 0, 2)) {
            return INVALID;
        }
        int place = member.deliveries.size() - 1 - index;
        if (place < 0) {
            return NONE;
        }
        Delivery delivery = member.deliveries.get(place);
        return part == 0 ? delivery.stamp : part == 1 ? delivery.value : delivery.time;
    }

    int nextDeadline() {
        return state.store.stream().mapToInt(e -> e.stamp + state.members[e.client].delay).min().orElse(NONE);
    }

    int forecastWakes(int ticks, int cause) {
        if (out(ticks, 1, 500) || out(cause, 0, 1)) {
            return INVALID;
        }
        State future = state.copy();
        future.run(ticks);
        return future.wakes[cause] - state.wakes[cause];
    }

    int smallestCapacity(int ticks) {
        if (out(ticks, 1, 500)) {
            return INVALID;
        }
        for (int capacity = 1; capacity <= 30; capacity++) {
            State future = state.copy();
            future.capacity = capacity;
            future.run(ticks);
            if (future.wakes[1] == state.wakes[1]) {
                return capacity;
            }
        }
        return NONE;
    }

    int tightestClient(int ticks) {
        if (out(ticks, 1, 500)) {
            return INVALID;
        }
        int fewest = state.copy().run(ticks);
        int tightest = NONE;
        for (int client = 0; client < 8; client++) {
            if (state.members[client] != null) {
                State future = state.copy();
                future.members[client].delay = 400;
                int wakes = future.run(ticks);
                if (wakes < fewest) {
                    fewest = wakes;
                    tightest = client;
                }
            }
        }
        return tightest;
    }
}
