import java.util.Arrays;
import java.util.NoSuchElementException;

/** A flush planner for a cache that is backed by a battery; the promises stand in DOC.md. */
public final class FlushPlanner {
    public static final int NONE = -1;

    private static final int TEXT_LIMIT = 400;
    private static final int APPENDED_BYTES = 20;
    private static final int DEVICE_LIMIT = 5;
    private static final int BLOCK_LIMIT = 24;
    private static final int ADDRESS_COUNT = 100;
    private static final int VALUE_LIMIT = 99;
    private static final int ENERGY_LIMIT = 500;
    private static final int MINUTES_LIMIT = 1000;
    private static final int SLOT_COUNT = 2;

    private static final int MODE_STRICT = 0;
    private static final int MODE_VALUE = 1;
    private static final int MODE_OFF = 2;

    private static final int TOTAL_CACHED = 0;
    private static final int TOTAL_THROUGH = 1;
    private static final int TOTAL_FLUSHED = 2;
    private static final int TOTAL_LOST = 3;
    private static final int TOTAL_FLUSHED_VALUE = 4;
    private static final int TOTAL_LOST_VALUE = 5;
    private static final int TOTAL_CLEANED = 6;
    private static final int TOTAL_COUNT = 7;

    private final SetupText text = new SetupText();
    private int latestErrorCode = 0;
    private int latestErrorPosition = NONE;
    private final State now = new State();
    private final State draft = new State();
    private final State[] savedStates = new State[SLOT_COUNT];
    private final boolean[] isSaved = new boolean[SLOT_COUNT];
    private final Search search = new Search();
    private final Battery trialBattery = new Battery();
    private final Cache trialCache = new Cache();

    public FlushPlanner() {
        for (int slot = 0; slot < SLOT_COUNT; slot++) {
            savedStates[slot] = new State();
        }
        now.battery.capacity = 100;
        now.battery.charge = 100;
        now.battery.rate = 10;
        now.battery.drain = 1;
        now.battery.wear = 100;
    }

    // ---- the setup

    public int append(int a, int b, int c, int d, int e) throws IllegalStateException {
        if (text.length > TEXT_LIMIT - APPENDED_BYTES) {
            throw new IllegalStateException("the text would be too long");
        }
        text.addBytesOf(a);
        text.addBytesOf(b);
        text.addBytesOf(c);
        text.addBytesOf(d);
        text.addBytesOf(e);
        return text.length;
    }

    public int truncate(int length) throws IndexOutOfBoundsException {
        if (length < 0 || length > text.length) {
            throw new IndexOutOfBoundsException("no such length");
        }
        text.length = length;
        return length;
    }

    public int load() throws IllegalArgumentException {
        text.readInto(draft);
        text.length = 0;
        latestErrorCode = text.errorFound;
        latestErrorPosition = text.errorPlace;
        if (latestErrorCode != 0) {
            throw new IllegalArgumentException("the text has an error");
        }
        now.copyFrom(draft);
        for (int slot = 0; slot < SLOT_COUNT; slot++) {
            isSaved[slot] = false;
        }
        return now.devices.count;
    }

    public int errorCode() {
        return latestErrorCode;
    }

    public int errorPosition() {
        return latestErrorPosition;
    }

    // ---- reports

    public int report(int what) throws IllegalArgumentException {
        switch (what) {
            case 0: return now.battery.capacity;
            case 1: return now.battery.charge;
            case 2: return now.time;
            case 3: return now.isOn ? 1 : 0;
            case 4: return now.cache.count;
            case 5: return now.devices.count;
            case 6: return now.rules.mode;
            case 7: return now.rules.threshold;
            case 8: return now.battery.discharge;
            default: throw new IllegalArgumentException("no such report");
        }
    }

    public int device(int device, int what) throws IndexOutOfBoundsException, IllegalArgumentException {
        requireDevice(device);
        int set = now.cache.blocksOn(device);
        switch (what) {
            case 0: return now.devices.spinUp[device];
            case 1: return now.devices.seek[device];
            case 2: return now.devices.writing[device];
            case 3: return now.devices.isFailed[device] ? 1 : 0;
            case 4: return Integer.bitCount(set);
            case 5: return now.cache.valueIn(set);
            case 6: return now.devices.energyIn(now.cache, set);
            default: throw new IllegalArgumentException("no such report");
        }
    }

    public int block(int block, int what) throws IndexOutOfBoundsException, IllegalArgumentException {
        requireBlock(block);
        switch (what) {
            case 0: return now.cache.device[block];
            case 1: return now.cache.address[block];
            case 2: return now.cache.value[block];
            case 3: return now.time - now.cache.since[block];
            default: throw new IllegalArgumentException("no such report");
        }
    }

    public int find(int device, int address) throws IndexOutOfBoundsException, NoSuchElementException {
        requireDevice(device);
        requireAddress(address);
        int block = now.cache.indexOf(device, address);
        if (block == NONE) {
            throw new NoSuchElementException("the block is not dirty");
        }
        return block;
    }

    public int oldest() throws NoSuchElementException {
        if (now.cache.count == 0) {
            throw new NoSuchElementException("no block is dirty");
        }
        int found = 0;
        for (int k = 1; k < now.cache.count; k++) {
            if (now.cache.since[k] < now.cache.since[found]) {
                found = k;
            }
        }
        return found;
    }

    public int total(int what) throws IllegalArgumentException {
        if (what < 0 || what >= TOTAL_COUNT) {
            throw new IllegalArgumentException("no such total");
        }
        return now.totals[what];
    }

    // ---- operation

    public boolean write(int device, int address, int value)
            throws IndexOutOfBoundsException, IllegalArgumentException, IllegalStateException {
        requireWritable(device, address, value);
        boolean isCached = isAllowed(device, address, value);
        if (isCached) {
            now.cache.put(device, address, value, now.time);
            now.totals[TOTAL_CACHED]++;
        } else {
            now.cache.drop(device, address);
            now.totals[TOTAL_THROUGH]++;
        }
        return isCached;
    }

    public boolean wouldCache(int device, int address, int value)
            throws IndexOutOfBoundsException, IllegalArgumentException, IllegalStateException {
        requireWritable(device, address, value);
        return isAllowed(device, address, value);
    }

    public int clean(int device) throws IndexOutOfBoundsException, IllegalStateException {
        requireDevice(device);
        if (!now.isOn || now.devices.isFailed[device]) {
            throw new IllegalStateException("the device cannot be cleaned");
        }
        int set = now.cache.blocksOn(device);
        int count = Integer.bitCount(set);
        now.cache.removeSet(set);
        now.totals[TOTAL_CLEANED] += count;
        return count;
    }

    public boolean setFailed(int device, boolean isFailed) throws IndexOutOfBoundsException {
        requireDevice(device);
        boolean before = now.devices.isFailed[device];
        now.devices.isFailed[device] = isFailed;
        return before;
    }

    public int setMode(int mode, int threshold) throws IllegalArgumentException {
        if (mode < MODE_STRICT || mode > MODE_OFF) {
            throw new IllegalArgumentException("no such mode");
        }
        int least = mode == MODE_VALUE ? 1 : 0;
        int greatest = mode == MODE_VALUE ? VALUE_LIMIT : 0;
        if (threshold < least || threshold > greatest) {
            throw new IllegalArgumentException("no such threshold");
        }
        int before = now.rules.mode;
        now.rules.mode = mode;
        now.rules.threshold = threshold;
        return before;
    }

    public boolean setPower(boolean isOn) {
        boolean before = now.isOn;
        now.isOn = isOn;
        return before;
    }

    public int advance(int minutes) throws IllegalArgumentException {
        if (minutes < 1 || minutes > MINUTES_LIMIT) {
            throw new IllegalArgumentException("minutes out of range");
        }
        int lost = 0;
        for (int k = 0; k < minutes; k++) {
            lost += now.passMinute();
        }
        return lost;
    }

    public int flush() throws IllegalStateException {
        if (now.isOn) {
            throw new IllegalStateException("the power is on");
        }
        return flushSet(search.best(now, now.usableBlocks(), now.battery.charge));
    }

    public int flushDevice(int device) throws IndexOutOfBoundsException, IllegalStateException {
        requireDevice(device);
        int set = now.cache.blocksOn(device);
        if (now.isOn || now.devices.isFailed[device]
                || now.battery.charge < now.devices.energyIn(now.cache, set)) {
            throw new IllegalStateException("the device cannot be flushed");
        }
        return flushSet(set);
    }

    // ---- plans

    public int need() {
        return now.neededEnergy();
    }

    public int energyOf(int set) throws IllegalArgumentException {
        requireSet(set);
        return now.devices.energyIn(now.cache, set);
    }

    public int valueOf(int set) throws IllegalArgumentException {
        requireSet(set);
        return now.cache.valueIn(set);
    }

    public int bestSet(int energy) throws IllegalArgumentException {
        requireEnergy(energy);
        return search.best(now, now.usableBlocks(), energy);
    }

    public int bestValue(int energy) throws IllegalArgumentException {
        requireEnergy(energy);
        return valueFor(now.usableBlocks(), energy);
    }

    public int greedySet(int energy) throws IllegalArgumentException {
        requireEnergy(energy);
        return greedyBlocks(energy);
    }

    public double quality(int energy) throws IllegalArgumentException, NoSuchElementException {
        requireEnergy(energy);
        int best = valueFor(now.usableBlocks(), energy);
        if (best == 0) {
            throw new NoSuchElementException("the best set has no value");
        }
        return (double) now.cache.valueIn(greedyBlocks(energy)) / (double) best;
    }

    public int energyFor(int value) throws IllegalArgumentException, NoSuchElementException {
        if (value < 0 || value > BLOCK_LIMIT * VALUE_LIMIT) {
            throw new IllegalArgumentException("value out of range");
        }
        int energy = search.leastEnergy(now, now.usableBlocks(), value);
        if (energy == NONE) {
            throw new NoSuchElementException("no energy is enough");
        }
        return energy;
    }

    public int extra(int block) throws IndexOutOfBoundsException, IllegalStateException {
        requireBlock(block);
        int usable = now.usableBlocks();
        if ((usable >> block & 1) == 0) {
            throw new IllegalStateException("the block is on a failed device");
        }
        int best = search.best(now, usable, now.battery.charge);
        return now.devices.energyIn(now.cache, best | 1 << block) - now.devices.energyIn(now.cache, best);
    }

    // ---- predictions

    public int minutesLeft() {
        int needed = now.neededEnergy();
        if (needed == 0 || needed > now.battery.charge) {
            return NONE;
        }
        trialBattery.copyFrom(now.battery);
        int minutes = 0;
        // The drain is at least 1, so the charge is used up long before the bound.
        while (minutes < MINUTES_LIMIT) {
            trialBattery.drainForMinute();
            if (trialBattery.charge < needed) {
                return minutes;
            }
            minutes++;
        }
        return minutes;
    }

    public int valueAfter(int minutes) throws IllegalArgumentException {
        if (minutes < 0 || minutes > MINUTES_LIMIT) {
            throw new IllegalArgumentException("minutes out of range");
        }
        trialBattery.copyFrom(now.battery);
        for (int k = 0; k < minutes; k++) {
            trialBattery.drainForMinute();
        }
        // Lost blocks need no case of their own: they are lost at charge 0, for which the best set is empty.
        return valueFor(now.usableBlocks(), trialBattery.charge);
    }

    public int minutesToSafety() {
        int wanted = now.neededEnergy() + now.rules.reserve;
        int missing = wanted - now.battery.charge;
        if (missing <= 0) {
            return 0;
        }
        int rate = now.battery.rate;
        if (rate <= 0 || wanted > now.battery.capacity) {
            return NONE;
        }
        return (missing + rate - 1) / rate;
    }

    public int gainOfRepair(int device) throws IndexOutOfBoundsException {
        requireDevice(device);
        if (!now.devices.isFailed[device]) {
            return 0;
        }
        int usable = now.usableBlocks();
        int repaired = usable | now.cache.blocksOn(device);
        return valueFor(repaired, now.battery.charge) - valueFor(usable, now.battery.charge);
    }

    public int costliest() throws NoSuchElementException {
        int found = NONE;
        int foundEnergy = 0;
        int foundValue = 1;
        for (int k = 0; k < now.devices.count; k++) {
            int set = now.cache.blocksOn(k);
            if (set == 0 || now.devices.isFailed[k]) {
                continue;
            }
            int energy = now.devices.energyIn(now.cache, set);
            int value = now.cache.valueIn(set);
            // Quotients are compared as products, which stay exact; a device with blocks needs energy.
            if (energy * foundValue > foundEnergy * value) {
                found = k;
                foundEnergy = energy;
                foundValue = value;
            }
        }
        if (found == NONE) {
            throw new NoSuchElementException("there is no such device");
        }
        return found;
    }

    // ---- saved states

    public void save(int slot) throws IndexOutOfBoundsException {
        requireSlot(slot);
        savedStates[slot].copyFrom(now);
        isSaved[slot] = true;
    }

    public void restore(int slot) throws IndexOutOfBoundsException, NoSuchElementException {
        requireSlot(slot);
        if (!isSaved[slot]) {
            throw new NoSuchElementException("nothing is saved there");
        }
        now.copyFrom(savedStates[slot]);
    }

    // ---- what the calls share

    private void requireDevice(int device) {
        if (device < 0 || device >= now.devices.count) {
            throw new IndexOutOfBoundsException("no such device");
        }
    }

    private void requireAddress(int address) {
        if (address < 0 || address >= ADDRESS_COUNT) {
            throw new IndexOutOfBoundsException("no such address");
        }
    }

    private void requireBlock(int block) {
        if (block < 0 || block >= now.cache.count) {
            throw new IndexOutOfBoundsException("no such dirty block");
        }
    }

    private void requireSlot(int slot) {
        if (slot < 0 || slot >= SLOT_COUNT) {
            throw new IndexOutOfBoundsException("no such slot");
        }
    }

    private void requireSet(int set) {
        if ((set & ~now.cache.allBlocks()) != 0) {
            throw new IllegalArgumentException("the set has other than dirty blocks");
        }
    }

    private void requireEnergy(int energy) {
        if (energy < 0 || energy > ENERGY_LIMIT) {
            throw new IllegalArgumentException("energy out of range");
        }
    }

    private void requireWritable(int device, int address, int value) {
        requireDevice(device);
        requireAddress(address);
        if (value < 1 || value > VALUE_LIMIT) {
            throw new IllegalArgumentException("value out of range");
        }
        if (!now.isOn || now.devices.isFailed[device]) {
            throw new IllegalStateException("the device cannot be written");
        }
    }

    private boolean isAllowed(int device, int address, int value) {
        if (now.rules.mode == MODE_OFF) {
            return false;
        }
        boolean isDirty = now.cache.indexOf(device, address) != NONE;
        if (!isDirty && now.cache.count >= now.rules.slots) {
            return false;
        }
        // The written block can join two runs, so that only the set with it tells the energy.
        trialCache.copyFrom(now.cache);
        trialCache.put(device, address, value, now.time);
        int guarded = 0;
        for (int k = 0; k < trialCache.count; k++) {
            if (isGuarded(trialCache.device[k], trialCache.value[k])) {
                guarded |= 1 << k;
            }
        }
        return now.devices.energyIn(trialCache, guarded) <= now.battery.charge - now.rules.reserve;
    }

    private boolean isGuarded(int device, int value) {
        return !now.devices.isFailed[device]
                && (now.rules.mode != MODE_VALUE || value >= now.rules.threshold);
    }

    private int flushSet(int set) {
        int value = now.cache.valueIn(set);
        now.battery.spend(now.devices.energyIn(now.cache, set));
        now.cache.removeSet(set);
        now.totals[TOTAL_FLUSHED] += Integer.bitCount(set);
        now.totals[TOTAL_FLUSHED_VALUE] += value;
        return value;
    }

    private int valueFor(int usable, int energy) {
        return now.cache.valueIn(search.best(now, usable, energy));
    }

    private int greedyBlocks(int energy) {
        int waiting = now.usableBlocks();
        int set = 0;
        for (int k = 0; k < BLOCK_LIMIT && waiting != 0; k++) {
            int next = 1 << now.cache.mostValuable(waiting);
            waiting &= ~next;
            if (now.devices.energyIn(now.cache, set | next) <= energy) {
                set |= next;
            }
        }
        return set;
    }

    /** Everything that save() saves. */
    private static final class State {
        final Battery battery = new Battery();
        final Rules rules = new Rules();
        final Devices devices = new Devices();
        final Cache cache = new Cache();
        final int[] totals = new int[TOTAL_COUNT];
        int time = 0;
        boolean isOn = true;

        void copyFrom(State other) {
            battery.copyFrom(other.battery);
            rules.copyFrom(other.rules);
            devices.copyFrom(other.devices);
            cache.copyFrom(other.cache);
            System.arraycopy(other.totals, 0, totals, 0, TOTAL_COUNT);
            time = other.time;
            isOn = other.isOn;
        }

        int usableBlocks() {
            int set = 0;
            for (int k = 0; k < cache.count; k++) {
                if (!devices.isFailed[cache.device[k]]) {
                    set |= 1 << k;
                }
            }
            return set;
        }

        int neededEnergy() {
            return devices.energyIn(cache, usableBlocks());
        }

        /** Returns the value that is lost. */
        int passMinute() {
            time++;
            if (isOn) {
                battery.chargeForMinute();
                return 0;
            }
            battery.drainForMinute();
            return battery.charge == 0 ? loseAll() : 0;
        }

        private int loseAll() {
            int value = cache.valueIn(cache.allBlocks());
            totals[TOTAL_LOST] += cache.count;
            totals[TOTAL_LOST_VALUE] += value;
            cache.count = 0;
            return value;
        }
    }

    private static final class Battery {
        int capacity = 1;
        int charge = 0;
        int rate = 0;
        int drain = 1;
        int wear = 1;
        int discharge = 0;

        void copyFrom(Battery other) {
            capacity = other.capacity;
            charge = other.charge;
            rate = other.rate;
            drain = other.drain;
            wear = other.wear;
            discharge = other.discharge;
        }

        void chargeForMinute() {
            charge = Math.min(charge + rate, capacity);
        }

        void drainForMinute() {
            spend(Math.min(drain, charge));
        }

        void spend(int energy) {
            int before = wornTimes();
            charge -= energy;
            discharge += energy;
            capacity = Math.max(1, capacity - (wornTimes() - before));
            charge = Math.min(charge, capacity);
        }

        private int wornTimes() {
            return wear > 0 ? discharge / wear : 0;
        }
    }

    /** What decides about writes. */
    private static final class Rules {
        int reserve = 0;
        int slots = BLOCK_LIMIT;
        int mode = MODE_STRICT;
        int threshold = 0;

        void copyFrom(Rules other) {
            reserve = other.reserve;
            slots = other.slots;
            mode = other.mode;
            threshold = other.threshold;
        }

        void setDefaults() {
            reserve = 0;
            slots = BLOCK_LIMIT;
            mode = MODE_STRICT;
            threshold = 0;
        }
    }

    private static final class Devices {
        int count = 0;
        final int[] spinUp = new int[DEVICE_LIMIT];
        final int[] seek = new int[DEVICE_LIMIT];
        final int[] writing = new int[DEVICE_LIMIT];
        final boolean[] isFailed = new boolean[DEVICE_LIMIT];

        void copyFrom(Devices other) {
            count = other.count;
            for (int k = 0; k < DEVICE_LIMIT; k++) {
                spinUp[k] = other.spinUp[k];
                seek[k] = other.seek[k];
                writing[k] = other.writing[k];
                isFailed[k] = other.isFailed[k];
            }
        }

        int energyIn(Cache cache, int set) {
            int energy = 0;
            int latest = NONE;
            for (int k = 0; k < cache.count; k++) {
                if ((set >> k & 1) == 0) {
                    continue;
                }
                int device = cache.device[k];
                if (latest == NONE || cache.device[latest] != device) {
                    energy += spinUp[device] + seek[device];
                } else if (!cache.isFollowedBy(latest, k)) {
                    energy += seek[device];
                }
                energy += writing[device];
                latest = k;
            }
            return energy;
        }
    }

    /** The dirty blocks, in the order of their numbers. */
    private static final class Cache {
        int count = 0;
        final int[] device = new int[BLOCK_LIMIT];
        final int[] address = new int[BLOCK_LIMIT];
        final int[] value = new int[BLOCK_LIMIT];
        final int[] since = new int[BLOCK_LIMIT];

        void copyFrom(Cache other) {
            count = other.count;
            for (int k = 0; k < count; k++) {
                copyBlock(other, k, k);
            }
        }

        private void copyBlock(Cache other, int from, int to) {
            device[to] = other.device[from];
            address[to] = other.address[from];
            value[to] = other.value[from];
            since[to] = other.since[from];
        }

        int allBlocks() {
            return (1 << count) - 1;
        }

        int blocksOn(int wanted) {
            int set = 0;
            for (int k = 0; k < count; k++) {
                if (device[k] == wanted) {
                    set |= 1 << k;
                }
            }
            return set;
        }

        int valueIn(int set) {
            int sum = 0;
            for (int k = 0; k < count; k++) {
                if ((set >> k & 1) != 0) {
                    sum += value[k];
                }
            }
            return sum;
        }

        boolean isFollowedBy(int block, int next) {
            return device[block] == device[next] && address[block] + 1 == address[next];
        }

        /** Returns the lowest number among the blocks of the greatest value in a set that is not empty. */
        int mostValuable(int set) {
            int found = 0;
            int greatest = 0;
            for (int k = 0; k < count; k++) {
                if ((set >> k & 1) != 0 && value[k] > greatest) {
                    found = k;
                    greatest = value[k];
                }
            }
            return found;
        }

        int indexOf(int wantedDevice, int wantedAddress) {
            for (int k = 0; k < count; k++) {
                if (device[k] == wantedDevice && address[k] == wantedAddress) {
                    return k;
                }
            }
            return NONE;
        }

        void put(int newDevice, int newAddress, int newValue, int time) {
            int known = indexOf(newDevice, newAddress);
            if (known != NONE) {
                // It stays as old as it is: it became dirty then, not now.
                value[known] = newValue;
                return;
            }
            if (count >= BLOCK_LIMIT) {
                return;
            }
            int place = count;
            while (place > 0 && isBehind(place - 1, newDevice, newAddress)) {
                copyBlock(this, place - 1, place);
                place--;
            }
            device[place] = newDevice;
            address[place] = newAddress;
            value[place] = newValue;
            since[place] = time;
            count++;
        }

        private boolean isBehind(int block, int otherDevice, int otherAddress) {
            return device[block] > otherDevice
                    || device[block] == otherDevice && address[block] > otherAddress;
        }

        void drop(int oldDevice, int oldAddress) {
            int block = indexOf(oldDevice, oldAddress);
            if (block != NONE) {
                removeSet(1 << block);
            }
        }

        void removeSet(int set) {
            int kept = 0;
            for (int k = 0; k < count; k++) {
                if ((set >> k & 1) == 0) {
                    copyBlock(this, k, kept);
                    kept++;
                }
            }
            count = kept;
        }
    }

    /**
     * Finds best sets, by the exact energy that they need. A row has a rank for each energy: the
     * value of the best of the sets with this energy above 24 bits that are the greater the less
     * its bit set is. So the greatest rank is the best set, and a block adds the same to each rank.
     */
    private static final class Search {
        private static final int VALUE_SHIFT = BLOCK_LIMIT;
        private static final long SET_MASK = (1L << VALUE_SHIFT) - 1;
        private static final long NO_RANK = -1;

        /** The sets without a block of the device that is considered. */
        private final long[] idle = new long[ENERGY_LIMIT + 1];
        /** The sets with blocks of the device, but without the latest one. */
        private final long[] spun = new long[ENERGY_LIMIT + 1];
        /** The sets with the latest block. */
        private final long[] running = new long[ENERGY_LIMIT + 1];

        /** Returns the best set for an energy from 0 to ENERGY_LIMIT among the usable blocks. */
        int best(State state, int usable, int energy) {
            // Every value is positive, so nothing is better than all blocks if they fit.
            if (state.devices.energyIn(state.cache, usable) <= energy) {
                return usable;
            }
            int limit = Math.max(0, Math.min(energy, ENERGY_LIMIT));
            rank(state, usable, limit);
            long found = idle[0];
            for (int e = 1; e <= limit; e++) {
                // The rank alone would prefer a lower set to a lower energy.
                if (idle[e] >> VALUE_SHIFT > found >> VALUE_SHIFT) {
                    found = idle[e];
                }
            }
            return (int) (SET_MASK - (found & SET_MASK));
        }

        /** Returns the least energy with which a set has the value; NONE if there is none. */
        int leastEnergy(State state, int usable, int value) {
            rank(state, usable, ENERGY_LIMIT);
            for (int e = 0; e <= ENERGY_LIMIT; e++) {
                if (idle[e] >= 0 && idle[e] >> VALUE_SHIFT >= value) {
                    return e;
                }
            }
            return NONE;
        }

        /** Leaves the ranks of all sets of usable blocks in the row idle. */
        private void rank(State state, int usable, int limit) {
            Arrays.fill(idle, NO_RANK);
            Arrays.fill(spun, NO_RANK);
            Arrays.fill(running, NO_RANK);
            idle[0] = SET_MASK;
            int latest = NONE;
            // No set of the blocks so far needs more than this, so the rows are empty behind it.
            int reach = 0;
            for (int k = 0; k < state.cache.count; k++) {
                if ((usable >> k & 1) == 0) {
                    continue;
                }
                if (latest != NONE && state.cache.device[latest] != state.cache.device[k]) {
                    leaveDevice(reach);
                }
                boolean isNext = latest != NONE && state.cache.isFollowedBy(latest, k);
                reach = Math.min(limit, reach + state.devices.energyIn(state.cache, 1 << k));
                considerBlock(state, k, isNext, reach);
                latest = k;
            }
            leaveDevice(reach);
        }

        private void leaveDevice(int reach) {
            for (int e = 0; e <= reach; e++) {
                idle[e] = Math.max(idle[e], Math.max(spun[e], running[e]));
                spun[e] = NO_RANK;
                running[e] = NO_RANK;
            }
        }

        private void considerBlock(State state, int block, boolean isNext, int reach) {
            int device = state.cache.device[block];
            int inRun = state.devices.writing[device];
            int newRun = inRun + state.devices.seek[device];
            int first = newRun + state.devices.spinUp[device];
            long gain = ((long) state.cache.value[block] << VALUE_SHIFT) - (1L << block);
            // Downwards, because a rank comes from lower energies as they were without the block.
            for (int e = reach; e >= 0; e--) {
                long before = Math.max(rankAt(idle, e - first), rankAt(spun, e - newRun));
                before = Math.max(before, rankAt(running, e - (isNext ? inRun : newRun)));
                spun[e] = Math.max(spun[e], running[e]);
                running[e] = before < 0 ? NO_RANK : before + gain;
            }
        }

        private static long rankAt(long[] row, int energy) {
            return energy >= 0 && energy < row.length ? row[energy] : NO_RANK;
        }
    }

    /** The text buffer, and the reader of what it holds. */
    private static final class SetupText {
        private static final int END = 0;
        private static final int WORD = 1;
        private static final int NUMBER = 2;
        private static final int SEMICOLON = 3;
        private static final int STRANGE = 4;

        private static final int ERROR_TOKEN = 1;
        private static final int ERROR_RANGE = 2;
        private static final int ERROR_REPEATED = 3;
        private static final int ERROR_DEVICES = 4;

        private static final int DIGIT_LIMIT = 4;
        private static final int SETTING_COUNT = 3;
        private static final int NO_SETTING = 0;
        private static final int RESERVE = 1;
        private static final int SLOTS = 2;
        private static final int MODE = 4;

        private final byte[] bytes = new byte[TEXT_LIMIT];
        int length = 0;
        int errorFound = 0;
        int errorPlace = NONE;
        private int kind = END;
        private int start = 0;
        private int end = 0;

        void addBytesOf(int four) {
            for (int shift = 24; shift >= 0 && length < TEXT_LIMIT; shift -= 8) {
                bytes[length] = (byte) (four >> shift);
                length++;
            }
        }

        /**
         * Reads the text into a draft, which is of use only if no error is found. Nothing else ever
         * changes the draft, so that its time, blocks and totals are still those of a new state.
         */
        void readInto(State draft) {
            errorFound = 0;
            errorPlace = NONE;
            end = 0;
            draft.rules.setDefaults();
            draft.devices.count = 0;
            readToken();
            readBattery(draft.battery);
            readSettings(draft.rules);
            readDevices(draft.devices);
            if (kind != END) {
                refuse(ERROR_TOKEN);
            }
        }

        private void readBattery(Battery battery) {
            takeWord("battery");
            battery.capacity = takeNumber(1, 500);
            battery.charge = takeNumber(0, battery.capacity);
            battery.rate = takeNumber(0, 50);
            battery.drain = takeNumber(1, 50);
            battery.wear = takeNumber(1, 1000);
            takeSemicolon();
        }

        private void readSettings(Rules rules) {
            int seen = 0;
            for (int k = 0; k <= SETTING_COUNT; k++) {
                int setting = settingAtToken();
                if (setting == NO_SETTING) {
                    return;
                }
                if ((seen & setting) != 0) {
                    refuse(ERROR_REPEATED);
                    return;
                }
                seen |= setting;
                readToken();
                readSetting(rules, setting);
                takeSemicolon();
            }
        }

        private int settingAtToken() {
            if (isWord("reserve")) {
                return RESERVE;
            }
            if (isWord("slots")) {
                return SLOTS;
            }
            return isWord("mode") ? MODE : NO_SETTING;
        }

        private void readSetting(Rules rules, int setting) {
            if (setting == RESERVE) {
                rules.reserve = takeNumber(0, 200);
            } else if (setting == SLOTS) {
                rules.slots = takeNumber(1, BLOCK_LIMIT);
            } else {
                readMode(rules);
            }
        }

        private void readMode(Rules rules) {
            if (isWord("value")) {
                readToken();
                rules.mode = MODE_VALUE;
                rules.threshold = takeNumber(1, VALUE_LIMIT);
            } else if (isWord("off")) {
                readToken();
                rules.mode = MODE_OFF;
            } else {
                takeWord("strict");
                rules.mode = MODE_STRICT;
            }
        }

        private void readDevices(Devices devices) {
            for (int k = 0; k <= DEVICE_LIMIT && isWord("device"); k++) {
                if (k == DEVICE_LIMIT) {
                    refuse(ERROR_DEVICES);
                    return;
                }
                readToken();
                devices.spinUp[k] = takeNumber(0, 200);
                devices.seek[k] = takeNumber(0, 50);
                devices.writing[k] = takeNumber(1, 50);
                takeSemicolon();
                devices.count = k + 1;
            }
        }

        private void takeWord(String word) {
            if (isWord(word)) {
                readToken();
            } else {
                refuse(ERROR_TOKEN);
            }
        }

        private void takeSemicolon() {
            if (kind == SEMICOLON) {
                readToken();
            } else {
                refuse(ERROR_TOKEN);
            }
        }

        private int takeNumber(int least, int greatest) {
            if (kind != NUMBER) {
                refuse(ERROR_TOKEN);
                return least;
            }
            int number = 0;
            for (int k = start; k < end && k < length; k++) {
                number = number * 10 + bytes[k] - '0';
            }
            if (number < least || number > greatest) {
                refuse(ERROR_RANGE);
                return least;
            }
            readToken();
            return number;
        }

        /** Keeps the first error; a strange token then stands still, so that nothing more is read. */
        private void refuse(int code) {
            if (errorFound == 0) {
                errorFound = code;
                errorPlace = start;
            }
            kind = STRANGE;
        }

        private boolean isWord(String word) {
            if (kind != WORD || end - start != word.length()) {
                return false;
            }
            for (int k = 0; k < word.length() && start + k < length; k++) {
                if (bytes[start + k] != word.charAt(k)) {
                    return false;
                }
            }
            return true;
        }

        private void readToken() {
            start = end;
            while (start < length && isBlank(bytes[start])) {
                start++;
            }
            end = start;
            if (start >= length) {
                kind = END;
            } else if (isLetter(bytes[start])) {
                kind = WORD;
                while (end < length && isLetter(bytes[end])) {
                    end++;
                }
            } else if (isDigit(bytes[start])) {
                while (end < length && isDigit(bytes[end])) {
                    end++;
                }
                kind = end - start <= DIGIT_LIMIT ? NUMBER : STRANGE;
            } else {
                kind = bytes[start] == ';' ? SEMICOLON : STRANGE;
                end++;
            }
        }

        private static boolean isBlank(byte sign) {
            return sign == 10 || sign == 32;
        }

        private static boolean isLetter(byte sign) {
            return sign >= 'a' && sign <= 'z';
        }

        private static boolean isDigit(byte sign) {
            return sign >= '0' && sign <= '9';
        }
    }
}
