import java.util.ArrayDeque;
import java.util.ArrayList;
import java.util.Comparator;
import java.util.Deque;
import java.util.List;
import java.util.regex.Pattern;
import java.util.stream.Collectors;

/** The document once more, written another way with the Java library, for ModelTest to compare with. */
final class Model {
    /** A pile that never changes: what happens to it makes another one. */
    record Pile(int place, int ticket, int colour, int weight, int time, int promise, boolean rush, int state, int where,
            int shelvedAt) {
        Pile turned() {
            return new Pile(place, ticket, colour, weight, time, promise, !rush, state, where, shelvedAt);
        }

        Pile moved(int newState, int newWhere, int clock) {
            return new Pile(place, ticket, colour, weight, time, promise, rush, newState, newWhere, clock);
        }

        boolean late() {
            return shelvedAt > promise;
        }

        int fee(int price) {
            int sum = price * weight + (rush ? price * weight / 2 : 0);
            return late() ? sum - sum / 4 : sum;
        }
    }

    static final class House implements Cloneable {
        List<Pile> piles = new ArrayList<>();
        int[] rooms = {30, 40};
        int[] ends = {-1, -1};
        int[] loads = {0, 0};
        int[] settings = {3, 1};
        int clock;
        int takenIn;
        int handedOut;
        int shelved;
        int late;
        int fees;
        int refused;

        House copy() {
            House other = new House();
            other.piles = new ArrayList<>(piles);
            other.rooms = rooms.clone();
            other.ends = ends.clone();
            other.loads = loads.clone();
            other.settings = settings.clone();
            other.clock = clock;
            other.takenIn = takenIn;
            other.handedOut = handedOut;
            other.shelved = shelved;
            other.late = late;
            other.fees = fees;
            other.refused = refused;
            return other;
        }
    }

    private static final String PILE = "[a-d](1?[1-9]|10|20)/([1-5]?[1-9]|[1-6]0)@[1-9][0-9]{0,2}!?";
    private static final Pattern TEXT = Pattern.compile(PILE + "(;" + PILE + ")*");
    private static final String[] ENDINGS = {"", "1", "a1/1@1", "1/1@1", "/1@1", "1@1", "@1"};

    private House house = new House();
    private final House[] slots = new House[2];
    private final Deque<House> saved = new ArrayDeque<>();
    private final StringBuilder buffer = new StringBuilder();

    private static void index(boolean right) {
        if (!right) {
            throw new IndexOutOfBoundsException();
        }
    }

    private static void argument(boolean right) {
        if (!right) {
            throw new IllegalArgumentException();
        }
    }

    private static void state(boolean right) {
        if (!right) {
            throw new IllegalStateException();
        }
    }

    private static boolean in(int value, int least, int most) {
        return least <= value && value <= most;
    }

    private void save() {
        saved.addLast(house.copy());
        if (saved.size() > 6) {
            saved.removeFirst();
        }
    }

    private Pile at(int place) {
        return house.piles.stream().filter(p -> p.place == place).findAny().orElse(null);
    }

    private void replace(Pile pile) {
        house.piles.removeIf(p -> p.place == pile.place);
        house.piles.add(pile);
    }

    private List<Pile> those(int state, int where) {
        return house.piles.stream().filter(p -> p.state == state && (state == 0 || p.where == where))
                .sorted(Comparator.comparingInt(Pile::ticket)).collect(Collectors.toList());
    }

    private List<Pile> queue() {
        Comparator<Pile> order = Comparator.comparingInt(Pile::promise).thenComparingInt(Pile::ticket);
        if (house.settings[1] == 1) {
            order = Comparator.comparing((Pile p) -> !p.rush).thenComparing(order);
        }
        return those(0, -1).stream().sorted(order).collect(Collectors.toList());
    }

    private int admit(int colour, int weight, int time, int within, boolean rush) {
        if (house.piles.size() == 10) {
            house.refused++;
            return -1;
        }
        int place = 0;
        while (at(place) != null) {
            place++;
        }
        int ticket = 100 + house.takenIn++;
        house.piles.add(new Pile(place, ticket, colour, weight, time, house.clock + within, rush, 0, -1, -1));
        return ticket;
    }

    int takeIn(int colour, int weight, int time, int within, boolean rush) {
        argument(in(colour, 0, 3) && in(weight, 1, 20) && in(time, 1, 60) && in(within, 1, 999));
        save();
        return admit(colour, weight, time, within, rush);
    }

    int handOut(int ticket, int shelf) {
        index(in(shelf, 0, 7));
        save();
        int reason = those(2, shelf).isEmpty() ? 1 : those(2, shelf).get(0).ticket != ticket ? 2 : 0;
        if (reason > 0) {
            house.refused++;
            return reason;
        }
        Pile pile = those(2, shelf).get(0);
        house.piles.remove(pile);
        house.fees += pile.fee(house.settings[0]);
        house.handedOut++;
        unload();
        return 10 + pile.fee(house.settings[0]);
    }

    private int unload() {
        int before = house.shelved;
        for (int machine = 0; machine < 2; machine++) {
            if (house.ends[machine] < 0 || house.ends[machine] > house.clock) {
                continue;
            }
            for (Pile pile : those(1, machine)) {
                for (int shelf = 0; shelf < 8 && at(pile.place).state == 1; shelf++) {
                    if (those(2, shelf).isEmpty()) {
                        Pile moved = pile.moved(2, shelf, house.clock);
                        replace(moved);
                        house.shelved++;
                        house.late += moved.late() ? 1 : 0;
                    }
                }
            }
            if (those(1, machine).isEmpty()) {
                house.ends[machine] = -1;
            }
        }
        return house.shelved - before;
    }

    int rush(int place) {
        index(at(place) != null);
        state(at(place).state == 0);
        save();
        replace(at(place).turned());
        return at(place).rush ? 1 : 0;
    }

    int load(int machine) {
        index(in(machine, 0, 1));
        save();
        List<Pile> chosen = chosen(house.rooms[machine]);
        if (house.ends[machine] >= 0 || chosen.isEmpty()) {
            house.refused++;
            return -1;
        }
        chosen.forEach(p -> replace(p.moved(1, machine, -1)));
        house.ends[machine] = house.clock + chosen.stream().mapToInt(Pile::time).max().getAsInt();
        house.loads[machine]++;
        return chosen.stream().mapToInt(Pile::weight).sum();
    }

    private List<Pile> chosen(int room) {
        List<Pile> chosen = new ArrayList<>();
        for (Pile pile : queue()) {
            int weight = chosen.stream().mapToInt(Pile::weight).sum() + pile.weight;
            if (weight <= room && chosen.stream().allMatch(p -> p.colour == pile.colour)) {
                chosen.add(pile);
            }
        }
        return chosen;
    }

    int room(int machine, int room) {
        index(in(machine, 0, 1));
        argument(in(room, 10, 60));
        state(house.ends[machine] < 0);
        save();
        int before = house.rooms[machine];
        house.rooms[machine] = room;
        return before;
    }

    int pass(int minutes) {
        argument(in(minutes, 1, 240));
        state(house.clock + minutes <= 99999);
        save();
        int put = 0;
        for (int minute = 0; minute < minutes; minute++) {
            house.clock++;
            put += unload();
        }
        return put;
    }

    int set(int setting, int value) {
        index(in(setting, 0, 1));
        argument(in(value, setting == 0 ? 1 : 0, setting == 0 ? 9 : 1));
        save();
        int before = house.settings[setting];
        house.settings[setting] = value;
        return before;
    }

    int append(int code) {
        argument(in(code, 33, 126));
        state(buffer.length() < 60);
        return buffer.append((char) code).length();
    }

    int clearBuffer() {
        int before = buffer.length();
        buffer.setLength(0);
        return before;
    }

    int firstError() {
        for (int length = 1; length <= buffer.length(); length++) {
            boolean right = false;
            for (String ending : ENDINGS) {
                right |= TEXT.matcher(buffer.substring(0, length) + ending).matches();
            }
            if (!right) {
                return length - 1;
            }
        }
        return buffer.length();
    }

    int read() {
        argument(TEXT.matcher(buffer).matches());
        save();
        int taken = 0;
        for (String pile : buffer.toString().split(";")) {
            String[] parts = pile.substring(1).replace("!", "").split("[/@]");
            if (admit(pile.charAt(0) - 'a', Integer.parseInt(parts[0]), Integer.parseInt(parts[1]),
                    Integer.parseInt(parts[2]), pile.endsWith("!")) < 0) {
                break;
            }
            taken++;
        }
        buffer.setLength(0);
        return taken;
    }

    int keep(int slot) {
        argument(in(slot, 0, 1));
        slots[slot] = house.copy();
        return house.clock;
    }

    int goBack(int slot) {
        argument(in(slot, 0, 1));
        state(slots[slot] != null);
        save();
        house = slots[slot].copy();
        return house.clock;
    }

    int undo() {
        state(!saved.isEmpty());
        house = saved.removeLast();
        return saved.size();
    }

    int pileOf(int place, int what) {
        index(in(place, 0, 9));
        argument(in(what, 0, 10));
        Pile pile = at(place);
        if (pile == null) {
            return -1;
        }
        int[] all = {pile.ticket, pile.colour, pile.weight, pile.time, pile.promise, pile.rush ? 1 : 0, pile.state,
            pile.where, queue().indexOf(pile), pile.shelvedAt, pile.fee(house.settings[0])};
        return all[what];
    }

    int machineOf(int machine, int what) {
        index(in(machine, 0, 1));
        argument(in(what, 0, 5));
        List<Pile> inside = those(1, machine);
        int[] all = {house.rooms[machine], inside.stream().mapToInt(Pile::weight).sum(),
            inside.isEmpty() ? -1 : inside.get(0).colour, inside.size(), house.ends[machine], house.loads[machine]};
        return all[what];
    }

    int shelf(int shelf) {
        index(in(shelf, 0, 7));
        return those(2, shelf).isEmpty() ? -1 : those(2, shelf).get(0).place;
    }

    private int pilesThat(int state) {
        return (int) house.piles.stream().filter(p -> p.state == state).count();
    }

    int count(int what) {
        argument(in(what, 0, 10));
        int[] all = {house.clock, house.piles.size(), pilesThat(0), pilesThat(1), pilesThat(2), house.takenIn,
            house.handedOut, house.late, house.fees, house.refused, saved.size()};
        return all[what];
    }

    int setting(int setting) {
        index(in(setting, 0, 1));
        return house.settings[setting];
    }

    int waiting(int rank) {
        argument(rank >= 0);
        return rank < queue().size() ? queue().get(rank).place : -1;
    }

    int ifLoaded(int machine) {
        index(in(machine, 0, 1));
        return chosen(house.rooms[machine]).stream().mapToInt(p -> 1 << p.place).sum();
    }

    int endsIn() {
        int next = Integer.MAX_VALUE;
        for (int end : house.ends) {
            next = end < 0 ? next : Math.min(next, Math.max(0, end - house.clock));
        }
        return next == Integer.MAX_VALUE ? -1 : next;
    }

    int fewestLate(int what) {
        argument(in(what, 0, 1));
        List<Pile> line = those(0, -1);
        line.sort(Comparator.comparingInt(Pile::promise));
        // For each number of piles in time, the least time that they take: another way than the two of the class.
        int[] least = new int[line.size() + 1];
        java.util.Arrays.fill(least, 1000000);
        least[0] = house.clock;
        for (Pile pile : line) {
            for (int number = line.size(); number > 0; number--) {
                int end = least[number - 1] + pile.time;
                if (end <= pile.promise) {
                    least[number] = Math.min(least[number], end);
                }
            }
        }
        int most = 0;
        for (int number = 0; number <= line.size(); number++) {
            most = least[number] < 1000000 ? number : most;
        }
        return line.size() - most;
    }

    double lateShare() {
        return house.shelved == 0 ? 0.0 : (double) house.late / house.shelved;
    }

    long digest() {
        List<Long> values = new ArrayList<>();
        for (int what = 0; what <= 10; what++) {
            values.add((long) count(what));
        }
        values.add((long) setting(0));
        values.add((long) setting(1));
        for (int place = 0; place < 10; place++) {
            for (int what = 0; what <= 10; what++) {
                values.add((long) pileOf(place, what));
            }
        }
        for (int machine = 0; machine < 2; machine++) {
            for (int what = 0; what <= 5; what++) {
                values.add((long) machineOf(machine, what));
            }
            values.add((long) ifLoaded(machine));
        }
        for (int shelf = 0; shelf < 8; shelf++) {
            values.add((long) shelf(shelf));
        }
        for (int rank = 0; rank < 10; rank++) {
            values.add((long) waiting(rank));
        }
        values.add((long) endsIn());
        values.add((long) fewestLate(0));
        values.add((long) fewestLate(1));
        values.add(Double.doubleToLongBits(lateShare()));
        for (House slot : slots) {
            values.add(slot == null ? 0L : 1L);
        }
        values.add((long) buffer.length());
        buffer.chars().forEach(code -> values.add((long) code));
        long hash = 3557;
        for (long value : values) {
            hash = 31 * hash + value;
        }
        return hash;
    }
}
