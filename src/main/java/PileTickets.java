/** A laundry's ticket room; README.md and the project's document tell what each call answers. */
public final class PileTickets {
    public static final int NONE = -1;

    private static final int PLACES = 10;
    private static final int MACHINES = 2;
    private static final int SHELVES = 8;
    private static final int SETTINGS = 2;
    private static final int SLOTS = 2;
    private static final int SAVED_STATES = 6;
    private static final int BUFFER_LENGTH = 60;
    private static final int FIRST_TICKET = 100;

    private static final int LAST_COLOUR = 3;
    private static final int MOST_WEIGHT = 20;
    private static final int MOST_TIME = 60;
    private static final int MOST_WITHIN = 999;
    private static final int LEAST_ROOM = 10;
    private static final int MOST_ROOM = 60;
    private static final int MOST_MINUTES = 240;
    private static final int LAST_CLOCK = 99999;
    private static final int FIRST_CODE = 33;
    private static final int LAST_CODE = 126;

    private static final int PRICE = 0;
    private static final int RUSHES_FIRST = 1;
    private static final int LEAST_PRICE = 1;
    private static final int MOST_PRICE = 9;

    private static final int WAITS = 0;
    private static final int IN_MACHINE = 1;
    private static final int ON_SHELF = 2;

    private static final int LAST_PILE_PROPERTY = 10;
    private static final int LAST_MACHINE_PROPERTY = 5;
    private static final int LAST_COUNT = 10;

    private final House house = new House();
    private final House[] slots = new House[SLOTS];
    private final boolean[] isKept = new boolean[SLOTS];
    private final History history = new History();
    private final Text text = new Text();
    private final Line line = new Line();
    private final Forecast forecast = new Forecast();

    public PileTickets() {
        for (int slot = 0; slot < SLOTS; slot++) {
            slots[slot] = new House();
        }
    }

    // ---- piles

    public int takeIn(int colour, int weight, int time, int within, boolean isRush)
            throws IllegalArgumentException {
        if (colour < 0 || colour > LAST_COLOUR) {
            throw new IllegalArgumentException("no such colour");
        }
        if (weight < 1 || weight > MOST_WEIGHT) {
            throw new IllegalArgumentException("weight is not 1 to 20");
        }
        if (time < 1 || time > MOST_TIME) {
            throw new IllegalArgumentException("time is not 1 to 60");
        }
        if (within < 1 || within > MOST_WITHIN) {
            throw new IllegalArgumentException("within is not 1 to 999");
        }
        history.save(house);
        return house.admit(colour, weight, time, within, isRush);
    }

    public int handOut(int ticket, int shelf) throws IndexOutOfBoundsException {
        if (shelf < 0 || shelf >= SHELVES) {
            throw new IndexOutOfBoundsException("no such shelf");
        }
        history.save(house);
        return house.give(ticket, shelf);
    }

    public int rush(int place) throws IndexOutOfBoundsException, IllegalStateException {
        if (place < 0 || place >= PLACES || !house.piles[place].isHere()) {
            throw new IndexOutOfBoundsException("no pile at the place");
        }
        Pile pile = house.piles[place];
        if (pile.state != WAITS) {
            throw new IllegalStateException("the pile does not wait");
        }
        history.save(house);
        pile.isRush = !pile.isRush;
        return pile.isRush ? 1 : 0;
    }

    // ---- machines, minutes

    public int load(int machine) throws IndexOutOfBoundsException {
        if (machine < 0 || machine >= MACHINES) {
            throw new IndexOutOfBoundsException("no such machine");
        }
        history.save(house);
        int places = house.machines[machine].isIdle() ? ifLoaded(machine) : 0;
        if (places == 0) {
            house.refused++;
            return NONE;
        }
        house.start(machine, places);
        return house.weightIn(machine);
    }

    public int room(int machine, int room)
            throws IndexOutOfBoundsException, IllegalArgumentException, IllegalStateException {
        if (machine < 0 || machine >= MACHINES) {
            throw new IndexOutOfBoundsException("no such machine");
        }
        if (room < LEAST_ROOM || room > MOST_ROOM) {
            throw new IllegalArgumentException("room is not 10 to 60");
        }
        if (!house.machines[machine].isIdle()) {
            throw new IllegalStateException("the machine is not idle");
        }
        history.save(house);
        int before = house.machines[machine].room;
        house.machines[machine].room = room;
        return before;
    }

    public int pass(int minutes) throws IllegalArgumentException, IllegalStateException {
        if (minutes < 1 || minutes > MOST_MINUTES) {
            throw new IllegalArgumentException("minutes is not 1 to 240");
        }
        if (house.clock + minutes > LAST_CLOCK) {
            throw new IllegalStateException("the clock would be above 99999");
        }
        history.save(house);
        int put = 0;
        for (int minute = 0; minute < minutes; minute++) {
            house.clock++;
            put += house.emptyEndedMachines();
        }
        return put;
    }

    public int set(int setting, int value) throws IndexOutOfBoundsException, IllegalArgumentException {
        if (setting < 0 || setting >= SETTINGS) {
            throw new IndexOutOfBoundsException("no such setting");
        }
        if (!fitsSetting(setting, value)) {
            throw new IllegalArgumentException("value is out of range");
        }
        history.save(house);
        int before = house.settings[setting];
        house.settings[setting] = value;
        return before;
    }

    private static boolean fitsSetting(int setting, int value) {
        if (setting == PRICE) {
            return value >= LEAST_PRICE && value <= MOST_PRICE;
        }
        return value == 0 || value == 1;
    }

    // ---- texts, snapshots

    public int append(int code) throws IllegalArgumentException, IllegalStateException {
        if (code < FIRST_CODE || code > LAST_CODE) {
            throw new IllegalArgumentException("code is not 33 to 126");
        }
        if (text.length >= BUFFER_LENGTH) {
            throw new IllegalStateException("the buffer is full");
        }
        text.codes[text.length] = code;
        text.length++;
        return text.length;
    }

    public int clearBuffer() {
        int before = text.length;
        text.length = 0;
        return before;
    }

    public int firstError() {
        return text.lengthInSyntax();
    }

    public int read() throws IllegalArgumentException {
        if (!text.tellsPiles()) {
            throw new IllegalArgumentException("the buffer does not tell piles");
        }
        history.save(house);
        int taken = text.admitPiles(house);
        text.length = 0;
        return taken;
    }

    public int keep(int slot) throws IllegalArgumentException {
        if (slot < 0 || slot >= SLOTS) {
            throw new IllegalArgumentException("no such slot");
        }
        slots[slot].copyFrom(house);
        isKept[slot] = true;
        return house.clock;
    }

    public int goBack(int slot) throws IllegalArgumentException, IllegalStateException {
        if (slot < 0 || slot >= SLOTS) {
            throw new IllegalArgumentException("no such slot");
        }
        if (!isKept[slot]) {
            throw new IllegalStateException("no snapshot in the slot");
        }
        history.save(house);
        house.copyFrom(slots[slot]);
        return house.clock;
    }

    public int undo() throws IllegalStateException {
        if (history.size == 0) {
            throw new IllegalStateException("no saved state");
        }
        history.restore(house);
        return history.size;
    }

    // ---- looks; nothing is changed

    public int pileOf(int place, int what) throws IndexOutOfBoundsException, IllegalArgumentException {
        if (place < 0 || place >= PLACES) {
            throw new IndexOutOfBoundsException("no such place");
        }
        if (what < 0 || what > LAST_PILE_PROPERTY) {
            throw new IllegalArgumentException("what is not 0 to 10");
        }
        Pile pile = house.piles[place];
        if (!pile.isHere()) {
            return NONE;
        }
        switch (what) {
            case 0: return pile.ticket;
            case 1: return pile.colour;
            case 2: return pile.weight;
            case 3: return pile.time;
            case 4: return pile.promise;
            case 5: return pile.isRush ? 1 : 0;
            case 6: return pile.state;
            case 7: return pile.where;
            case 8: return rankOf(place);
            case 9: return pile.shelvedAt;
            default: return pile.feeAt(house.settings[PRICE]);
        }
    }

    private int rankOf(int place) {
        line.arrange(house, house.settings[RUSHES_FIRST] == 1);
        return line.rankOf(place);
    }

    public int machineOf(int machine, int what) throws IndexOutOfBoundsException, IllegalArgumentException {
        if (machine < 0 || machine >= MACHINES) {
            throw new IndexOutOfBoundsException("no such machine");
        }
        if (what < 0 || what > LAST_MACHINE_PROPERTY) {
            throw new IllegalArgumentException("what is not 0 to 5");
        }
        switch (what) {
            case 0: return house.machines[machine].room;
            case 1: return house.weightIn(machine);
            case 2: return house.colourIn(machine);
            case 3: return house.pilesIn(machine);
            case 4: return house.machines[machine].end;
            default: return house.machines[machine].loads;
        }
    }

    public int shelf(int shelf) throws IndexOutOfBoundsException {
        if (shelf < 0 || shelf >= SHELVES) {
            throw new IndexOutOfBoundsException("no such shelf");
        }
        return house.placeOnShelf(shelf);
    }

    public int count(int what) throws IllegalArgumentException {
        if (what < 0 || what > LAST_COUNT) {
            throw new IllegalArgumentException("what is not 0 to 10");
        }
        switch (what) {
            case 0: return house.clock;
            case 1: return house.pilesThat(WAITS) + house.pilesThat(IN_MACHINE) + house.pilesThat(ON_SHELF);
            case 2: return house.pilesThat(WAITS);
            case 3: return house.pilesThat(IN_MACHINE);
            case 4: return house.pilesThat(ON_SHELF);
            case 5: return house.takenIn;
            case 6: return house.handedOut;
            case 7: return house.shelvedLate;
            case 8: return house.fees;
            case 9: return house.refused;
            default: return history.size;
        }
    }

    public int setting(int setting) throws IndexOutOfBoundsException {
        if (setting < 0 || setting >= SETTINGS) {
            throw new IndexOutOfBoundsException("no such setting");
        }
        return house.settings[setting];
    }

    // ---- what would be; nothing is changed

    public int waiting(int rank) throws IllegalArgumentException {
        if (rank < 0) {
            throw new IllegalArgumentException("rank is below 0");
        }
        line.arrange(house, house.settings[RUSHES_FIRST] == 1);
        return rank < line.length ? line.places[rank] : NONE;
    }

    public int ifLoaded(int machine) throws IndexOutOfBoundsException {
        if (machine < 0 || machine >= MACHINES) {
            throw new IndexOutOfBoundsException("no such machine");
        }
        line.arrange(house, house.settings[RUSHES_FIRST] == 1);
        return line.placesForRoom(house, house.machines[machine].room);
    }

    public int endsIn() {
        int earliest = NONE;
        for (int machine = 0; machine < MACHINES; machine++) {
            int end = house.machines[machine].end;
            if (end != NONE && (earliest == NONE || end < earliest)) {
                earliest = end;
            }
        }
        return earliest == NONE ? NONE : Math.max(0, earliest - house.clock);
    }

    public int fewestLate(int what) throws IllegalArgumentException {
        if (what < 0 || what > 1) {
            throw new IllegalArgumentException("what is not 0 or 1");
        }
        // Washed one by one, rushes gain nothing: the promises alone tell the best order.
        line.arrange(house, false);
        return what == 0 ? forecast.lateByDropping(house, line) : forecast.lateBySets(house, line);
    }

    public double lateShare() {
        return house.shelved == 0 ? 0.0 : (double) house.shelvedLate / (double) house.shelved;
    }

    public long digest() {
        long hash = hashOfPiles(hashOfCounts(3557L));
        hash = hashOfForecasts(hashOfMachinesAndShelves(hash));
        for (int slot = 0; slot < SLOTS; slot++) {
            hash = 31 * hash + (isKept[slot] ? 1 : 0);
        }
        hash = 31 * hash + text.length;
        for (int at = 0; at < text.length; at++) {
            hash = 31 * hash + text.codes[at];
        }
        return hash;
    }

    private long hashOfCounts(long start) {
        long hash = start;
        for (int what = 0; what <= LAST_COUNT; what++) {
            hash = 31 * hash + count(what);
        }
        for (int setting = 0; setting < SETTINGS; setting++) {
            hash = 31 * hash + setting(setting);
        }
        return hash;
    }

    private long hashOfPiles(long start) {
        long hash = start;
        for (int place = 0; place < PLACES; place++) {
            for (int what = 0; what <= LAST_PILE_PROPERTY; what++) {
                hash = 31 * hash + pileOf(place, what);
            }
        }
        return hash;
    }

    private long hashOfMachinesAndShelves(long start) {
        long hash = start;
        for (int machine = 0; machine < MACHINES; machine++) {
            for (int what = 0; what <= LAST_MACHINE_PROPERTY; what++) {
                hash = 31 * hash + machineOf(machine, what);
            }
            hash = 31 * hash + ifLoaded(machine);
        }
        for (int shelf = 0; shelf < SHELVES; shelf++) {
            hash = 31 * hash + shelf(shelf);
        }
        return hash;
    }

    private long hashOfForecasts(long start) {
        long hash = start;
        for (int rank = 0; rank < PLACES; rank++) {
            hash = 31 * hash + waiting(rank);
        }
        hash = 31 * hash + endsIn();
        hash = 31 * hash + fewestLate(0);
        hash = 31 * hash + fewestLate(1);
        return 31 * hash + bitsOfShare(lateShare());
    }

    /** Stands for Double.doubleToLongBits, which LANGUAGE.md leaves out; right for shares, which are 0.0 to 1.0. */
    private static long bitsOfShare(double share) {
        if (share <= 0.0) {
            return 0L;
        }
        double fraction = share;
        long exponent = 1023;
        for (int step = 0; step < 1000 && fraction < 1.0; step++) {
            fraction = fraction * 2.0;
            exponent--;
        }
        // Doubling is exact, and 4503599627370496 is 2 to the 52nd: no bit is lost in the cast.
        return (exponent << 52) + (long) ((fraction - 1.0) * 4503599627370496.0);
    }

    /** A place in the house with the pile at it; without one its ticket is NONE. */
    private static final class Pile {
        int ticket = NONE;
        int colour;
        int weight;
        int time;
        int promise;
        boolean isRush;
        int state;
        int where = NONE;
        int shelvedAt = NONE;

        boolean isHere() {
            return ticket != NONE;
        }

        boolean stands(int asked, int at) {
            return ticket != NONE && state == asked && where == at;
        }

        boolean isLate() {
            return state == ON_SHELF && shelvedAt > promise;
        }

        int feeAt(int price) {
            int fee = price * weight;
            if (isRush) {
                fee += fee / 2;
            }
            return isLate() ? fee - fee / 4 : fee;
        }

        boolean isAheadOf(Pile other, boolean rushesFirst) {
            if (rushesFirst && isRush != other.isRush) {
                return isRush;
            }
            if (promise != other.promise) {
                return promise < other.promise;
            }
            return ticket < other.ticket;
        }

        void copyFrom(Pile other) {
            ticket = other.ticket;
            colour = other.colour;
            weight = other.weight;
            time = other.time;
            promise = other.promise;
            isRush = other.isRush;
            state = other.state;
            where = other.where;
            shelvedAt = other.shelvedAt;
        }
    }

    /** What is in a machine is told by the piles alone; its end is NONE while it is idle. */
    private static final class Machine {
        int room;
        int end = NONE;
        int loads;

        Machine(int room) {
            this.room = room;
        }

        boolean isIdle() {
            return end == NONE;
        }

        void copyFrom(Machine other) {
            room = other.room;
            end = other.end;
            loads = other.loads;
        }
    }

    /** All that a snapshot or a saved state holds. */
    private static final class House {
        final Pile[] piles = new Pile[PLACES];
        final Machine[] machines = new Machine[MACHINES];
        final int[] settings = new int[SETTINGS];
        int clock;
        int takenIn;
        int handedOut;
        int shelved;
        int shelvedLate;
        int fees;
        int refused;

        House() {
            for (int place = 0; place < PLACES; place++) {
                piles[place] = new Pile();
            }
            for (int machine = 0; machine < MACHINES; machine++) {
                machines[machine] = new Machine(30 + 10 * machine);
            }
            settings[PRICE] = 3;
            settings[RUSHES_FIRST] = 1;
        }

        void copyFrom(House other) {
            for (int place = 0; place < PLACES; place++) {
                piles[place].copyFrom(other.piles[place]);
            }
            for (int machine = 0; machine < MACHINES; machine++) {
                machines[machine].copyFrom(other.machines[machine]);
            }
            System.arraycopy(other.settings, 0, settings, 0, SETTINGS);
            clock = other.clock;
            takenIn = other.takenIn;
            handedOut = other.handedOut;
            shelved = other.shelved;
            shelvedLate = other.shelvedLate;
            fees = other.fees;
            refused = other.refused;
        }

        /** Returns the new ticket, NONE if the house is full, which counts as refused. */
        int admit(int colour, int weight, int time, int within, boolean isRush) {
            int place = freePlace();
            if (place == NONE) {
                refused++;
                return NONE;
            }
            Pile pile = piles[place];
            pile.ticket = FIRST_TICKET + takenIn;
            pile.colour = colour;
            pile.weight = weight;
            pile.time = time;
            pile.promise = clock + within;
            pile.isRush = isRush;
            pile.state = WAITS;
            pile.where = NONE;
            pile.shelvedAt = NONE;
            takenIn++;
            return pile.ticket;
        }

        private int freePlace() {
            for (int place = 0; place < PLACES; place++) {
                if (!piles[place].isHere()) {
                    return place;
                }
            }
            return NONE;
        }

        /** Returns the fee and 10 together, or the reason why the pile is not handed out. */
        int give(int ticket, int shelf) {
            int place = placeOnShelf(shelf);
            if (place == NONE || piles[place].ticket != ticket) {
                refused++;
                return place == NONE ? 1 : 2;
            }
            int fee = piles[place].feeAt(settings[PRICE]);
            piles[place].ticket = NONE;
            fees += fee;
            handedOut++;
            emptyEndedMachines();
            return fee + 10;
        }

        int placeOnShelf(int shelf) {
            for (int place = 0; place < PLACES; place++) {
                if (piles[place].stands(ON_SHELF, shelf)) {
                    return place;
                }
            }
            return NONE;
        }

        private int freeShelf() {
            for (int shelf = 0; shelf < SHELVES; shelf++) {
                if (placeOnShelf(shelf) == NONE) {
                    return shelf;
                }
            }
            return NONE;
        }

        int pilesThat(int state) {
            int number = 0;
            for (int place = 0; place < PLACES; place++) {
                if (piles[place].isHere() && piles[place].state == state) {
                    number++;
                }
            }
            return number;
        }

        int pilesIn(int machine) {
            int number = 0;
            for (int place = 0; place < PLACES; place++) {
                if (piles[place].stands(IN_MACHINE, machine)) {
                    number++;
                }
            }
            return number;
        }

        int weightIn(int machine) {
            int weight = 0;
            for (int place = 0; place < PLACES; place++) {
                if (piles[place].stands(IN_MACHINE, machine)) {
                    weight += piles[place].weight;
                }
            }
            return weight;
        }

        int colourIn(int machine) {
            int place = firstIn(machine);
            return place == NONE ? NONE : piles[place].colour;
        }

        /** Returns the place of the pile with the least ticket in the machine. */
        private int firstIn(int machine) {
            int first = NONE;
            for (int place = 0; place < PLACES; place++) {
                if (piles[place].stands(IN_MACHINE, machine)
                        && (first == NONE || piles[place].ticket < piles[first].ticket)) {
                    first = place;
                }
            }
            return first;
        }

        /** Starts an idle machine with the piles at the places of a mask. */
        void start(int machine, int places) {
            int longest = 0;
            for (int place = 0; place < PLACES; place++) {
                if ((places >> place & 1) == 1) {
                    piles[place].state = IN_MACHINE;
                    piles[place].where = machine;
                    longest = Math.max(longest, piles[place].time);
                }
            }
            machines[machine].end = clock + longest;
            machines[machine].loads++;
        }

        /** Returns how many piles found a shelf. */
        int emptyEndedMachines() {
            int put = 0;
            for (int machine = 0; machine < MACHINES; machine++) {
                if (!machines[machine].isIdle() && machines[machine].end <= clock) {
                    put += emptyMachine(machine);
                }
            }
            return put;
        }

        private int emptyMachine(int machine) {
            int put = 0;
            int place = firstIn(machine);
            int shelf = freeShelf();
            while (place != NONE && shelf != NONE && put < PLACES) {
                putOnShelf(piles[place], shelf);
                put++;
                place = firstIn(machine);
                shelf = freeShelf();
            }
            if (place == NONE) {
                machines[machine].end = NONE;
            }
            return put;
        }

        private void putOnShelf(Pile pile, int shelf) {
            pile.state = ON_SHELF;
            pile.where = shelf;
            pile.shelvedAt = clock;
            shelved++;
            if (pile.isLate()) {
                shelvedLate++;
            }
        }
    }

    /** The saved states, kept in a ring so that none is made anew in a call. */
    private static final class History {
        private final House[] states = new House[SAVED_STATES];
        private int oldest;
        int size;

        History() {
            for (int at = 0; at < SAVED_STATES; at++) {
                states[at] = new House();
            }
        }

        void save(House house) {
            if (size == SAVED_STATES) {
                oldest = (oldest + 1) % SAVED_STATES;
                size--;
            }
            states[(oldest + size) % SAVED_STATES].copyFrom(house);
            size++;
        }

        void restore(House house) {
            if (size > 0) {
                size--;
                house.copyFrom(states[(oldest + size) % SAVED_STATES]);
            }
        }
    }

    /** The places of the waiting piles in an order, as they were when it was last arranged. */
    private static final class Line {
        final int[] places = new int[PLACES];
        int length;

        void arrange(House house, boolean rushesFirst) {
            length = 0;
            for (int place = 0; place < PLACES; place++) {
                Pile pile = house.piles[place];
                if (pile.isHere() && pile.state == WAITS) {
                    insert(house, place, rushesFirst);
                }
            }
        }

        private void insert(House house, int place, boolean rushesFirst) {
            int rank = length;
            while (rank > 0 && house.piles[place].isAheadOf(house.piles[places[rank - 1]], rushesFirst)) {
                places[rank] = places[rank - 1];
                rank--;
            }
            places[rank] = place;
            length++;
        }

        int rankOf(int place) {
            for (int rank = 0; rank < length; rank++) {
                if (places[rank] == place) {
                    return rank;
                }
            }
            return NONE;
        }

        /** Returns the mask of the places whose piles an idle machine with this room gets. */
        int placesForRoom(House house, int room) {
            int mask = 0;
            int colour = NONE;
            int left = room;
            for (int rank = 0; rank < length; rank++) {
                Pile pile = house.piles[places[rank]];
                if (pile.weight <= left && (mask == 0 || pile.colour == colour)) {
                    mask |= 1 << places[rank];
                    colour = pile.colour;
                    left -= pile.weight;
                }
            }
            return mask;
        }
    }

    /** How few of a line of piles, arranged by their promises, are late if each is washed alone. */
    private static final class Forecast {
        /** For each set of ranks the clock at which it is washed, NONE if one of it is late. */
        private final int[] ends = new int[1 << PLACES];

        int lateByDropping(House house, Line line) {
            int end = house.clock;
            int washed = 0;
            int late = 0;
            for (int rank = 0; rank < line.length; rank++) {
                Pile pile = house.piles[line.places[rank]];
                washed |= 1 << rank;
                end += pile.time;
                if (end > pile.promise) {
                    int longest = longestOf(house, line, washed);
                    washed ^= 1 << longest;
                    end -= house.piles[line.places[longest]].time;
                    late++;
                }
            }
            return late;
        }

        private int longestOf(House house, Line line, int ranks) {
            int longest = 0;
            int time = 0;
            for (int rank = 0; rank < line.length; rank++) {
                int own = house.piles[line.places[rank]].time;
                if ((ranks >> rank & 1) == 1 && own > time) {
                    longest = rank;
                    time = own;
                }
            }
            return longest;
        }

        int lateBySets(House house, Line line) {
            int most = 0;
            ends[0] = house.clock;
            for (int last = 0; last < line.length; last++) {
                Pile pile = house.piles[line.places[last]];
                for (int before = 0; before < 1 << last; before++) {
                    int set = before | 1 << last;
                    int end = ends[before] + pile.time;
                    boolean isInTime = ends[before] != NONE && end <= pile.promise;
                    ends[set] = isInTime ? end : NONE;
                    most = isInTime ? Math.max(most, Integer.bitCount(set)) : most;
                }
            }
            return line.length - most;
        }
    }

    /** The buffer, which no snapshot and no saved state holds. */
    private static final class Text {
        final int[] codes = new int[BUFFER_LENGTH];
        int length;
        private final Scanner scanner = new Scanner();

        /** Returns the index of the first syntax error, the length without one. */
        int lengthInSyntax() {
            scanner.begin();
            for (int at = 0; at < length; at++) {
                if (!scanner.accepts(codes[at])) {
                    return at;
                }
            }
            return length;
        }

        boolean tellsPiles() {
            return lengthInSyntax() == length && scanner.isAtEndOfPile();
        }

        /** Returns how many piles got in, up to the first one that is refused. */
        int admitPiles(House house) {
            int taken = 0;
            scanner.begin();
            for (int at = 0; at <= length; at++) {
                if (at == length || codes[at] == ';') {
                    if (!scanner.admitPile(house)) {
                        return taken;
                    }
                    taken++;
                }
                if (at < length) {
                    scanner.accepts(codes[at]);
                }
            }
            return taken;
        }
    }

    /** Reads piles as a text, character by character, and knows the pile that it is in. */
    private static final class Scanner {
        private static final int BEFORE_LETTER = 0;
        private static final int IN_WEIGHT = 1;
        private static final int IN_TIME = 2;
        private static final int IN_WITHIN = 3;
        private static final int AFTER_RUSH = 4;

        private int part;
        private int colour;
        private int weight;
        private int time;
        private int number;

        void begin() {
            part = BEFORE_LETTER;
            number = 0;
        }

        boolean isAtEndOfPile() {
            return part == AFTER_RUSH || part == IN_WITHIN && number > 0;
        }

        boolean admitPile(House house) {
            return house.admit(colour, weight, time, number, part == AFTER_RUSH) != NONE;
        }

        /** Returns whether a text can go on so; a code that is not accepted changes nothing. */
        boolean accepts(int code) {
            switch (part) {
                case BEFORE_LETTER: return acceptsLetter(code);
                case IN_WEIGHT: return acceptsDigit(code, MOST_WEIGHT) || acceptsEndOfWeight(code);
                case IN_TIME: return acceptsDigit(code, MOST_TIME) || acceptsEndOfTime(code);
                case IN_WITHIN: return acceptsDigit(code, MOST_WITHIN) || acceptsEndOfWithin(code);
                default: return acceptsNextPile(code);
            }
        }

        private boolean acceptsLetter(int code) {
            if (code < 'a' || code > 'a' + LAST_COLOUR) {
                return false;
            }
            colour = code - 'a';
            part = IN_WEIGHT;
            return true;
        }

        private boolean acceptsDigit(int code, int most) {
            if (code < '0' || code > '9') {
                return false;
            }
            int longer = 10 * number + (code - '0');
            // A leading zero would leave the number at 0, which no number may be.
            if (longer < 1 || longer > most) {
                return false;
            }
            number = longer;
            return true;
        }

        private boolean acceptsEndOfWeight(int code) {
            if (code != '/' || number == 0) {
                return false;
            }
            weight = number;
            number = 0;
            part = IN_TIME;
            return true;
        }

        private boolean acceptsEndOfTime(int code) {
            if (code != '@' || number == 0) {
                return false;
            }
            time = number;
            number = 0;
            part = IN_WITHIN;
            return true;
        }

        private boolean acceptsEndOfWithin(int code) {
            if (code != '!' || number == 0) {
                return acceptsNextPile(code);
            }
            part = AFTER_RUSH;
            return true;
        }

        private boolean acceptsNextPile(int code) {
            if (code != ';' || !isAtEndOfPile()) {
                return false;
            }
            begin();
            return true;
        }
    }
}
