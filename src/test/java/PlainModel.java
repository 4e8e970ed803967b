import java.util.ArrayList;
import java.util.Arrays;
import java.util.Comparator;
import java.util.List;
import java.util.Map;
import java.util.NoSuchElementException;
import java.util.TreeMap;
import java.util.regex.Matcher;
import java.util.regex.Pattern;

/** The document once more, without a thought for speed or room: sets are looked at one by one. */
final class PlainModel {
    private static final Pattern TOKEN = Pattern.compile("[ \\n]*(?:([a-z]+)|([0-9]+)|(;)|([\\x00-\\xff])|\\z)");

    /** A dirty block: its value and the minute in which it became dirty. */
    private record Dirty(int value, int since) {
    }

    private record Energies(int spinUp, int seek, int write) {
    }

    private record Battery(int capacity, int charge, int discharge) {
    }

    /** Everything that is saved; the maps are never changed, but replaced. */
    private record World(Battery battery, int rate, int drain, int wear, int reserve, int slots, int mode,
            int threshold, int time, boolean isOn, List<Energies> devices, List<Boolean> failed,
            Map<Integer, Dirty> dirty, List<Integer> totals) {
    }

    private static final class SetupError extends RuntimeException {
        private static final long serialVersionUID = 1L;
        final int code;
        final int position;

        SetupError(int code, int position) {
            this.code = code;
            this.position = position;
        }
    }

    private String text = "";
    private int errorCode = 0;
    private int errorPosition = -1;
    private World w = parsed("battery 100 100 10 1 100;");
    private final World[] saved = new World[2];

    // ---- the setup

    Object append(int[] words) {
        if (text.length() + 20 > 400) {
            throw new IllegalStateException();
        }
        StringBuilder more = new StringBuilder(text);
        for (int word : words) {
            for (int k = 3; k >= 0; k--) {
                more.append((char) (word >>> 8 * k & 255));
            }
        }
        text = more.toString();
        return text.length();
    }

    Object truncate(int length) {
        if (length < 0 || length > text.length()) {
            throw new IndexOutOfBoundsException();
        }
        text = text.substring(0, length);
        return length;
    }

    Object load() {
        String read = text;
        text = "";
        try {
            w = parsed(read);
        } catch (SetupError e) {
            errorCode = e.code;
            errorPosition = e.position;
            throw new IllegalArgumentException(e);
        }
        errorCode = 0;
        errorPosition = -1;
        Arrays.fill(saved, null);
        return w.devices.size();
    }

    Object errorCode() {
        return errorCode;
    }

    Object errorPosition() {
        return errorPosition;
    }

    private static World parsed(String text) {
        Parser p = new Parser(text);
        p.word("battery");
        int capacity = p.number(1, 500);
        int charge = p.number(0, capacity);
        int rate = p.number(0, 50);
        int drain = p.number(1, 50);
        int wear = p.number(1, 1000);
        p.word(";");
        Map<String, int[]> settings = new TreeMap<>();
        while (List.of("reserve", "slots", "mode").contains(p.token)) {
            String name = p.token;
            if (settings.containsKey(name)) {
                throw new SetupError(3, p.position);
            }
            p.word(name);
            settings.put(name, p.setting(name));
            p.word(";");
        }
        List<Energies> devices = new ArrayList<>();
        while (p.token.equals("device")) {
            if (devices.size() == 5) {
                throw new SetupError(4, p.position);
            }
            p.word("device");
            devices.add(new Energies(p.number(0, 200), p.number(0, 50), p.number(1, 50)));
            p.word(";");
        }
        p.word("");
        int[] mode = settings.getOrDefault("mode", new int[] {0, 0});
        return new World(new Battery(capacity, charge, 0), rate, drain, wear,
                settings.getOrDefault("reserve", new int[] {0})[0], settings.getOrDefault("slots", new int[] {24})[0],
                mode[0], mode[1], 0, true, devices, new ArrayList<>(java.util.Collections.nCopies(devices.size(), false)),
                new TreeMap<>(), new ArrayList<>(java.util.Collections.nCopies(7, 0)));
    }

    private static final class Parser {
        private final Matcher matcher;
        String token;
        int position;

        Parser(String text) {
            matcher = TOKEN.matcher(text);
            next();
        }

        private void next() {
            matcher.lookingAt();
            for (int group = 1; group <= 4; group++) {
                if (matcher.group(group) != null) {
                    token = matcher.group(group);
                    position = matcher.start(group);
                    matcher.region(matcher.end(), matcher.regionEnd());
                    return;
                }
            }
            token = "";
            position = matcher.regionEnd();
        }

        void word(String wanted) {
            if (!token.equals(wanted)) {
                throw new SetupError(1, position);
            }
            if (!wanted.isEmpty()) {
                next();
            }
        }

        int number(int least, int greatest) {
            if (!token.matches("[0-9]{1,4}")) {
                throw new SetupError(1, position);
            }
            int number = Integer.parseInt(token);
            if (number < least || number > greatest) {
                throw new SetupError(2, position);
            }
            next();
            return number;
        }

        int[] setting(String name) {
            if (name.equals("reserve")) {
                return new int[] {number(0, 200)};
            }
            if (name.equals("slots")) {
                return new int[] {number(1, 24)};
            }
            String mode = token;
            int at = List.of("strict", "value", "off").indexOf(mode);
            if (at < 0) {
                throw new SetupError(1, position);
            }
            word(mode);
            return new int[] {at, at == 1 ? number(1, 99) : 0};
        }
    }

    // ---- reports

    Object report(int what) {
        if (what < 0 || what > 8) {
            throw new IllegalArgumentException();
        }
        return new int[] {w.battery.capacity, w.battery.charge, w.time, w.isOn ? 1 : 0, w.dirty.size(),
            w.devices.size(), w.mode, w.threshold, w.battery.discharge}[what];
    }

    Object device(int device, int what) {
        checkDevice(device);
        if (what < 0 || what > 6) {
            throw new IllegalArgumentException();
        }
        Energies e = w.devices.get(device);
        int set = setOf(device);
        return new int[] {e.spinUp, e.seek, e.write, w.failed.get(device) ? 1 : 0, Integer.bitCount(set),
            value(set), energy(w.dirty, set)}[what];
    }

    Object block(int block, int what) {
        if (block < 0 || block >= w.dirty.size()) {
            throw new IndexOutOfBoundsException();
        }
        if (what < 0 || what > 3) {
            throw new IllegalArgumentException();
        }
        int place = places().get(block);
        Dirty dirty = w.dirty.get(place);
        return new int[] {place / 100, place % 100, dirty.value, w.time - dirty.since}[what];
    }

    Object find(int device, int address) {
        checkDevice(device);
        if (address < 0 || address > 99) {
            throw new IndexOutOfBoundsException();
        }
        int found = places().indexOf(device * 100 + address);
        if (found < 0) {
            throw new NoSuchElementException();
        }
        return found;
    }

    Object oldest() {
        List<Integer> places = places();
        int place = places.stream().min(Comparator.comparingInt(k -> w.dirty.get(k).since)).orElseThrow();
        return places.indexOf(place);
    }

    Object total(int what) {
        if (what < 0 || what > 6) {
            throw new IllegalArgumentException();
        }
        return w.totals.get(what);
    }

    // ---- operation

    Object wouldCache(int device, int address, int value) {
        checkDevice(device);
        if (address < 0 || address > 99) {
            throw new IndexOutOfBoundsException();
        }
        if (value < 1 || value > 99) {
            throw new IllegalArgumentException();
        }
        if (!w.isOn || w.failed.get(device)) {
            throw new IllegalStateException();
        }
        int place = device * 100 + address;
        if (w.mode == 2 || !w.dirty.containsKey(place) && w.dirty.size() >= w.slots) {
            return false;
        }
        Map<Integer, Dirty> guarded = new TreeMap<>(w.dirty);
        guarded.put(place, new Dirty(value, w.time));
        guarded.entrySet().removeIf(e -> w.failed.get(e.getKey() / 100)
                || w.mode == 1 && e.getValue().value < w.threshold);
        return energy(guarded, (1 << guarded.size()) - 1) <= w.battery.charge - w.reserve;
    }

    Object write(int device, int address, int value) {
        boolean isCached = (Boolean) wouldCache(device, address, value);
        int place = device * 100 + address;
        Dirty before = w.dirty.remove(place);
        if (isCached) {
            w.dirty.put(place, new Dirty(value, before == null ? w.time : before.since));
        }
        count(isCached ? 0 : 1, 1);
        return isCached;
    }

    Object clean(int device) {
        checkDevice(device);
        if (!w.isOn || w.failed.get(device)) {
            throw new IllegalStateException();
        }
        int before = w.dirty.size();
        w.dirty.keySet().removeIf(k -> k / 100 == device);
        count(6, before - w.dirty.size());
        return before - w.dirty.size();
    }

    Object setFailed(int device, boolean isFailed) {
        checkDevice(device);
        return w.failed.set(device, isFailed);
    }

    Object setMode(int mode, int threshold) {
        boolean isRight = mode == 1 ? threshold >= 1 && threshold <= 99 : (mode == 0 || mode == 2) && threshold == 0;
        if (!isRight) {
            throw new IllegalArgumentException();
        }
        int before = w.mode;
        w = new World(w.battery, w.rate, w.drain, w.wear, w.reserve, w.slots, mode, threshold, w.time, w.isOn,
                w.devices, w.failed, w.dirty, w.totals);
        return before;
    }

    Object setPower(boolean isOn) {
        boolean before = w.isOn;
        w = with(w.battery, w.time, isOn);
        return before;
    }

    Object advance(int minutes) {
        if (minutes < 1 || minutes > 1000) {
            throw new IllegalArgumentException();
        }
        int lost = 0;
        for (int k = 0; k < minutes; k++) {
            Battery b = w.battery;
            if (w.isOn) {
                b = new Battery(b.capacity, Math.min(b.capacity, b.charge + w.rate), b.discharge);
            } else {
                b = less(b, w.drain);
            }
            w = with(b, w.time + 1, w.isOn);
            if (!w.isOn && b.charge == 0) {
                int value = value((1 << w.dirty.size()) - 1);
                count(3, w.dirty.size());
                count(5, value);
                w.dirty.clear();
                lost += value;
            }
        }
        return lost;
    }

    Object flush() {
        if (w.isOn) {
            throw new IllegalStateException();
        }
        return flushed(best(w.battery.charge, -1));
    }

    Object flushDevice(int device) {
        checkDevice(device);
        int set = setOf(device);
        if (w.isOn || w.failed.get(device) || w.battery.charge < energy(w.dirty, set)) {
            throw new IllegalStateException();
        }
        return flushed(set);
    }

    private int flushed(int set) {
        int value = value(set);
        w = with(less(w.battery, energy(w.dirty, set)), w.time, w.isOn);
        List<Integer> places = places();
        for (int k = 0; k < places.size(); k++) {
            if ((set >> k & 1) == 1) {
                w.dirty.remove(places.get(k));
            }
        }
        count(2, Integer.bitCount(set));
        count(4, value);
        return value;
    }

    /** One unit after the other, as each can reach a multiple of wear. */
    private Battery less(Battery b, int energy) {
        int capacity = b.capacity;
        int discharge = b.discharge;
        int charge = b.charge;
        for (int k = 0; k < energy && k < b.charge; k++) {
            charge--;
            discharge++;
            if (discharge % w.wear == 0) {
                capacity = Math.max(1, capacity - 1);
            }
        }
        return new Battery(capacity, Math.min(charge, capacity), discharge);
    }

    // ---- plans

    Object need() {
        return energy(w.dirty, possible(-1));
    }

    Object energyOf(int set) {
        checkSet(set);
        return energy(w.dirty, set);
    }

    Object valueOf(int set) {
        checkSet(set);
        return value(set);
    }

    Object bestSet(int energy) {
        checkEnergy(energy);
        return best(energy, -1);
    }

    Object bestValue(int energy) {
        checkEnergy(energy);
        return value(best(energy, -1));
    }

    Object greedySet(int energy) {
        checkEnergy(energy);
        List<Integer> places = places();
        List<Integer> order = new ArrayList<>(places);
        order.removeIf(k -> w.failed.get(k / 100));
        order.sort(Comparator.comparingInt(k -> -w.dirty.get(k).value));
        int set = 0;
        for (int place : order) {
            int more = set | 1 << places.indexOf(place);
            if (energy(w.dirty, more) <= energy) {
                set = more;
            }
        }
        return set;
    }

    Object quality(int energy) {
        int greedy = value((Integer) greedySet(energy));
        int best = value(best(energy, -1));
        if (best == 0) {
            throw new NoSuchElementException();
        }
        return (double) greedy / best;
    }

    Object energyFor(int value) {
        if (value < 0 || value > 2376) {
            throw new IllegalArgumentException();
        }
        int least = 501;
        for (int set = 0; set < 1 << w.dirty.size(); set++) {
            if ((set & ~possible(-1)) == 0 && value(set) >= value) {
                least = Math.min(least, energy(w.dirty, set));
            }
        }
        if (least > 500) {
            throw new NoSuchElementException();
        }
        return least;
    }

    Object extra(int block) {
        if (block < 0 || block >= w.dirty.size()) {
            throw new IndexOutOfBoundsException();
        }
        if (w.failed.get(places().get(block) / 100)) {
            throw new IllegalStateException();
        }
        int best = best(w.battery.charge, -1);
        return energy(w.dirty, best | 1 << block) - energy(w.dirty, best);
    }

    // ---- predictions

    Object minutesLeft() {
        int need = (Integer) need();
        if (need == 0 || need > w.battery.charge) {
            return -1;
        }
        Battery b = less(w.battery, w.drain);
        int minutes = 0;
        while (b.charge >= need) {
            minutes++;
            b = less(b, w.drain);
        }
        return minutes;
    }

    Object valueAfter(int minutes) {
        if (minutes < 0 || minutes > 1000) {
            throw new IllegalArgumentException();
        }
        Battery b = w.battery;
        for (int k = 0; k < minutes; k++) {
            b = less(b, w.drain);
            if (b.charge == 0) {
                return 0;
            }
        }
        return value(best(b.charge, -1));
    }

    Object minutesToSafety() {
        int charge = w.battery.charge;
        for (int minutes = 0; minutes <= 500; minutes++) {
            if (charge >= (Integer) need() + w.reserve) {
                return minutes;
            }
            charge = Math.min(charge + w.rate, w.battery.capacity);
        }
        return -1;
    }

    Object gainOfRepair(int device) {
        checkDevice(device);
        return value(best(w.battery.charge, device)) - value(best(w.battery.charge, -1));
    }

    Object costliest() {
        int found = -1;
        for (int d = 0; d < w.devices.size(); d++) {
            if (w.failed.get(d) || setOf(d) == 0) {
                continue;
            }
            long mine = (long) energy(w.dirty, setOf(d)) * (found < 0 ? 0 : value(setOf(found)));
            if (found < 0 || mine > (long) energy(w.dirty, setOf(found)) * value(setOf(d))) {
                found = d;
            }
        }
        if (found < 0) {
            throw new NoSuchElementException();
        }
        return found;
    }

    // ---- saved states

    Object save(int slot) {
        if (slot < 0 || slot > 1) {
            throw new IndexOutOfBoundsException();
        }
        saved[slot] = copy(w);
        return 0;
    }

    Object restore(int slot) {
        if (slot < 0 || slot > 1) {
            throw new IndexOutOfBoundsException();
        }
        if (saved[slot] == null) {
            throw new NoSuchElementException();
        }
        w = copy(saved[slot]);
        return 0;
    }

    // ---- what the calls share

    private static World copy(World o) {
        return new World(o.battery, o.rate, o.drain, o.wear, o.reserve, o.slots, o.mode, o.threshold, o.time, o.isOn,
                o.devices, new ArrayList<>(o.failed), new TreeMap<>(o.dirty), new ArrayList<>(o.totals));
    }

    private World with(Battery battery, int time, boolean isOn) {
        return new World(battery, w.rate, w.drain, w.wear, w.reserve, w.slots, w.mode, w.threshold, time, isOn,
                w.devices, w.failed, w.dirty, w.totals);
    }

    private void count(int what, int more) {
        w.totals.set(what, w.totals.get(what) + more);
    }

    private void checkDevice(int device) {
        if (device < 0 || device >= w.devices.size()) {
            throw new IndexOutOfBoundsException();
        }
    }

    private void checkSet(int set) {
        for (int k = w.dirty.size(); k < 32; k++) {
            if ((set >>> k & 1) == 1) {
                throw new IllegalArgumentException();
            }
        }
    }

    private static void checkEnergy(int energy) {
        if (energy < 0 || energy > 500) {
            throw new IllegalArgumentException();
        }
    }

    private List<Integer> places() {
        return new ArrayList<>(w.dirty.keySet());
    }

    private int setOf(int device) {
        int set = 0;
        List<Integer> places = places();
        for (int k = 0; k < places.size(); k++) {
            set |= places.get(k) / 100 == device ? 1 << k : 0;
        }
        return set;
    }

    private int possible(int repaired) {
        int set = 0;
        for (int d = 0; d < w.devices.size(); d++) {
            set |= w.failed.get(d) && d != repaired ? 0 : setOf(d);
        }
        return set;
    }

    private int value(int set) {
        int sum = 0;
        int k = 0;
        for (Dirty dirty : w.dirty.values()) {
            sum += (set >> k & 1) * dirty.value;
            k++;
        }
        return sum;
    }

    private int energy(Map<Integer, Dirty> blocks, int set) {
        List<Integer> chosen = new ArrayList<>();
        int k = 0;
        for (int place : blocks.keySet()) {
            if ((set >> k & 1) == 1) {
                chosen.add(place);
            }
            k++;
        }
        int sum = 0;
        for (int d = 0; d < w.devices.size(); d++) {
            int writes = 0;
            int runs = 0;
            for (int place : chosen) {
                if (place / 100 == d) {
                    writes++;
                    runs += place % 100 != 0 && chosen.contains(place - 1) ? 0 : 1;
                }
            }
            Energies e = w.devices.get(d);
            sum += writes == 0 ? 0 : e.spinUp + runs * e.seek + writes * e.write;
        }
        return sum;
    }

    private int best(int energy, int repaired) {
        int found = 0;
        int possible = possible(repaired);
        for (int set = 1; set < 1 << w.dirty.size(); set++) {
            if ((set & ~possible) != 0 || value(set) < value(found)) {
                continue;
            }
            int needed = energy(w.dirty, set);
            if (needed <= energy && (value(set) > value(found) || needed < energy(w.dirty, found))) {
                found = set;
            }
        }
        return found;
    }
}
