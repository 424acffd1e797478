import java.util.ArrayList;
import java.util.List;
import java.util.NoSuchElementException;
import java.util.TreeSet;

/** The box told once more, as slowly and literally as the document tells it. */
final class Model {
    private static final class V {
        boolean tooth;
        int size;
        int reach;
        int tip;
        int root;
        int lead;
        char damper = '-';
        boolean bent;
        boolean broken;
        int strikes;

        int pitch() {
            return tooth ? 10000 - 20 * size + 4 * tip - 6 * root - 3 * lead - strikes / 50 : 100 * size;
        }

        int note() {
            return (pitch() + 50) / 100;
        }

        int off() {
            return Math.abs(pitch() - 100 * note());
        }

        boolean tuned() {
            return off() <= 5;
        }

        int steel() {
            return 100 - tip - root;
        }

        int damping() {
            int ticks = !tooth ? 1 : damper == '-' ? 8 : damper == 'w' ? 4 : 2;
            return bent ? ticks * 2 : ticks;
        }
    }

    private record N(int tick, int note, int part) {
    }

    private static final class P {
        int air;
        int tick;
        int place;
        int lean;

        P(int air, int tick, int place, int lean) {
            this.air = air;
            this.tick = tick;
            this.place = place;
            this.lean = lean;
        }
    }

    private final V[] v = new V[28];
    private final List<List<N>> sheets = new ArrayList<>();
    private List<P> pins = new ArrayList<>();
    private int ticks = -1;
    private int airs;
    private int shift;
    private boolean cement;
    private boolean snail;
    private int quarters;
    private int fan = 10;
    private double time;
    private int coins;

    Model() {
        for (int i = 0; i < 6; i++) {
            sheets.add(new ArrayList<>());
        }
    }

    private static void index(boolean is) {
        if (!is) {
            throw new IndexOutOfBoundsException();
        }
    }

    private static void number(boolean is) {
        if (!is) {
            throw new IllegalArgumentException();
        }
    }

    private static void state(boolean is) {
        if (!is) {
            throw new IllegalStateException();
        }
    }

    private static void done(boolean is) {
        if (!is) {
            throw new UnsupportedOperationException();
        }
    }

    private static void there(boolean is) {
        if (!is) {
            throw new NoSuchElementException();
        }
    }

    private static boolean in(int x, int least, int most) {
        return least <= x && x <= most;
    }

    long cylinder(int t, int a) {
        number(in(t, 40, 600) && in(a, 1, 6));
        int before = pins.size();
        ticks = t;
        airs = a;
        shift = 0;
        cement = false;
        pins = new ArrayList<>();
        return before;
    }

    long tooth(int place, int length, int reach) {
        index(in(place, 0, 27));
        number(in(length, 100, 400) && in(reach, 0, 2));
        done(place < 24);
        return put(place, true, length, reach);
    }

    long bell(int place, int note) {
        index(in(place, 0, 27));
        number(in(note, 1, 120));
        done(place >= 24);
        return put(place, false, note, 0);
    }

    private long put(int place, boolean tooth, int size, int reach) {
        boolean was = v[place] != null;
        v[place] = new V();
        v[place].tooth = tooth;
        v[place].size = size;
        v[place].reach = reach;
        return was ? 1 : 0;
    }

    private V at(int place) {
        index(in(place, 0, 27));
        there(v[place] != null);
        return v[place];
    }

    long pitch(int place) {
        return at(place).pitch();
    }

    long note(int place) {
        return at(place).note();
    }

    long isInTune(int place) {
        return at(place).tuned() ? 1 : 0;
    }

    long file(int place, char where, int by) {
        index(in(place, 0, 23));
        number((where == 't' || where == 'r') && in(by, 1, 60));
        V x = at(place);
        done(!x.broken && x.steel() - by >= 40);
        if (where == 't') {
            x.tip += by;
        } else {
            x.root += by;
        }
        return x.pitch();
    }

    long lead(int place, int by) {
        index(in(place, 0, 23));
        number(in(by, -50, 50));
        V x = at(place);
        done(!x.broken && in(x.lead + by, 0, 100));
        x.lead += by;
        return x.pitch();
    }

    long steel(int place) {
        index(in(place, 0, 23));
        return at(place).steel();
    }

    long damper(int place, char kind) {
        index(in(place, 0, 27));
        number("-wf".indexOf(kind) >= 0);
        V x = at(place);
        char was = x.damper;
        x.damper = kind;
        x.bent = false;
        return was;
    }

    long bend(int place, boolean is) {
        V x = at(place);
        done(x.damper != '-');
        boolean was = x.bent;
        x.bent = is;
        return was ? 1 : 0;
    }

    long damping(int place) {
        return at(place).damping();
    }

    long write(int air, int tick, int note, int part) {
        index(in(air, 0, 5));
        number(in(tick, 0, 599) && in(note, 1, 120) && in(part, 0, 3));
        state(sheets.get(air).size() < 30);
        sheets.get(air).add(new N(tick, note, part));
        return sheets.get(air).size();
    }

    long erase(int air) {
        index(in(air, 0, 5));
        int had = sheets.get(air).size();
        sheets.get(air).clear();
        return had;
    }

    private int around(int a, int b) {
        int ahead = Math.floorMod(a - b, ticks);
        int behind = Math.floorMod(b - a, ticks);
        return Math.min(ahead, behind);
    }

    private boolean near(int air, int tick, int place) {
        return pins.stream().anyMatch(p -> p.place == place && Math.abs(p.air - air) <= 1
                && around(p.tick, tick) <= 1);
    }

    private void needsPlace(int air, int tick, int place) {
        state(ticks > 0);
        index(in(air, 0, airs - 1) && in(tick, 0, ticks - 1) && in(place, 0, 27));
    }

    private void needsAir(int air) {
        state(ticks > 0);
        index(in(air, 0, airs - 1));
    }

    long pin(int air, int tick, int place, int lean) {
        needsPlace(air, tick, place);
        number(in(lean, -2, 2));
        done(!cement && pins.size() < 60 && !near(air, tick, place));
        pins.add(new P(air, tick, place, lean));
        return pins.size();
    }

    long pull(int air, int tick, int place) {
        needsPlace(air, tick, place);
        P found = null;
        for (P p : pins) {
            if (p.air == air && p.tick == tick && p.place == place) {
                found = p;
            }
        }
        there(found != null);
        done(!cement);
        pins.remove(found);
        return found.lean;
    }

    long pins(int air) {
        index(in(air, 0, 5));
        return pins.stream().filter(p -> p.air == air).count();
    }

    long rake() {
        state(ticks > 0);
        done(!cement);
        long leaned = pins.stream().filter(p -> p.lean != 0).count();
        pins.forEach(p -> p.lean = 0);
        return leaned;
    }

    long cement() {
        state(ticks > 0);
        boolean was = cement;
        cement = true;
        return was ? 1 : 0;
    }

    long arrange(int air) {
        needsAir(air);
        done(!cement);
        pins.removeIf(p -> p.air == air);
        List<N> order = new ArrayList<>(sheets.get(air));
        order.sort((a, b) -> a.tick() != b.tick() ? Integer.compare(a.tick(), b.tick())
                : a.part() != b.part() ? Integer.compare(a.part(), b.part())
                : Integer.compare(a.note(), b.note()));
        int left = 0;
        for (N n : order) {
            int place = n.tick() < ticks && pins.size() < 60 ? freePlace(air, n) : -1;
            if (place < 0) {
                left++;
            } else {
                pins.add(new P(air, n.tick(), place, 0));
            }
        }
        return left;
    }

    private int freePlace(int air, N n) {
        for (int place = 0; place < 28; place++) {
            V x = v[place];
            if (x == null || x.broken || !x.tuned() || x.note() != n.note()) {
                continue;
            }
            boolean free = !near(air, n.tick(), place);
            for (P p : pins) {
                free &= p.air != air || p.place != place || around(p.tick, n.tick()) >= x.damping();
            }
            if (free) {
                return place;
            }
        }
        return -1;
    }

    long shift(int air) {
        needsAir(air);
        int was = shift;
        shift = air;
        return was;
    }

    long shifted() {
        state(ticks > 0);
        return shift;
    }

    long snail(boolean is) {
        boolean was = snail;
        snail = is;
        return was ? 1 : 0;
    }

    long wind(int turns) {
        number(in(turns, 1, 20));
        quarters += 4 * turns;
        if (quarters > 80) {
            quarters = 80;
        }
        return quarters;
    }

    long fan(int f) {
        number(in(f, 1, 50));
        int was = fan;
        fan = f;
        return was;
    }

    private float speed() {
        return (float) (10 + quarters) / (float) fan;
    }

    long speedBits() {
        return Float.floatToIntBits(speed());
    }

    private boolean strikes(P p, int on) {
        V x = v[p.place];
        return x != null && !x.broken && Math.abs(p.air - on) <= x.reach;
    }

    private int when(P p) {
        return Math.floorMod(p.tick + p.lean, ticks);
    }

    long play(int turns) {
        state(ticks > 0);
        number(in(turns, 1, 40));
        int all = 0;
        for (int i = 0; i < turns && quarters > 0; i++) {
            for (P p : pins) {
                if (strikes(p, shift)) {
                    v[p.place].strikes++;
                    all++;
                }
            }
            time += (float) ticks / speed();
            quarters--;
            if (snail) {
                shift = (shift + 1) % airs;
            }
        }
        return all;
    }

    double played() {
        return time;
    }

    long strikes(int place) {
        return at(place).strikes;
    }

    long buzzes(int air) {
        needsAir(air);
        int found = 0;
        for (P p : pins) {
            boolean buzzes = false;
            for (P q : pins) {
                buzzes |= p != q && p.place == q.place && strikes(p, air) && strikes(q, air)
                        && Math.floorMod(when(p) - when(q), ticks) < v[p.place].damping();
            }
            found += buzzes ? 1 : 0;
        }
        return found;
    }

    long foreign(int air) {
        needsAir(air);
        return pins.stream().filter(p -> strikes(p, air) && p.air != air).count();
    }

    long heard(int air, int tick) {
        needsAir(air);
        index(in(tick, 0, ticks - 1));
        return pins.stream().filter(p -> strikes(p, air) && when(p) == tick).count();
    }

    long run() {
        state(ticks > 0);
        int[] inRun = new int[28];
        int breaks = 0;
        for (int turn = 0; turn < 3; turn++) {
            List<P> order = new ArrayList<>(pins);
            List<P> sorted = new ArrayList<>();
            while (!order.isEmpty()) {
                P first = order.get(0);
                for (P p : order) {
                    int[] a = {when(p), p.place, p.air, p.tick};
                    int[] b = {when(first), first.place, first.air, first.tick};
                    first = java.util.Arrays.compare(a, b) < 0 ? p : first;
                }
                order.remove(first);
                sorted.add(first);
            }
            for (P p : sorted) {
                if (!strikes(p, shift)) {
                    continue;
                }
                V x = v[p.place];
                x.strikes++;
                inRun[p.place]++;
                p.lean++;
                if (x.tooth && (x.steel() < 60 || inRun[p.place] == 3)) {
                    x.broken = true;
                    breaks++;
                }
            }
            pins.removeIf(p -> p.lean > 2);
        }
        return breaks;
    }

    long isBroken(int place) {
        return at(place).broken ? 1 : 0;
    }

    private List<Integer> lostTeeth() {
        List<Integer> lost = new ArrayList<>();
        for (int place = 0; place < 24; place++) {
            int here = place;
            if (v[place] != null && v[place].broken && pins.stream().anyMatch(p -> p.place == here)) {
                lost.add(place);
            }
        }
        done(lost.size() <= 3);
        return lost;
    }

    /** All tunings, each with the notes of the lost teeth. */
    private List<int[]> allTunings(List<Integer> lost) {
        TreeSet<Integer> notes = new TreeSet<>();
        sheets.forEach(s -> s.forEach(n -> notes.add(n.note())));
        List<int[]> tries = new ArrayList<>();
        tries.add(new int[0]);
        for (int i = 0; i < lost.size(); i++) {
            List<int[]> longer = new ArrayList<>();
            for (int[] t : tries) {
                for (int note : notes) {
                    int[] more = java.util.Arrays.copyOf(t, t.length + 1);
                    more[t.length] = note;
                    longer.add(more);
                }
            }
            tries = longer;
        }
        tries.removeIf(t -> !holds(lost, t));
        return tries;
    }

    private boolean holds(List<Integer> lost, int[] notes) {
        for (int air = 0; air < airs; air++) {
            List<int[]> left = new ArrayList<>();
            for (N n : sheets.get(air)) {
                left.add(new int[] {n.tick(), n.note()});
            }
            for (P p : pins) {
                V x = v[p.place];
                if (p.air != air || x == null) {
                    continue;
                }
                int which = lost.indexOf(p.place);
                if (which < 0 && !x.tuned()) {
                    continue;
                }
                int note = which < 0 ? x.note() : notes[which];
                int found = -1;
                for (int i = 0; i < left.size(); i++) {
                    found = left.get(i)[0] == p.tick && left.get(i)[1] == note ? i : found;
                }
                if (found < 0) {
                    return false;
                }
                left.remove(found);
            }
        }
        return true;
    }

    long tunings() {
        state(ticks > 0);
        return allTunings(lostTeeth()).size();
    }

    long lost(int place) {
        state(ticks > 0);
        index(in(place, 0, 23));
        List<Integer> lost = lostTeeth();
        there(lost.contains(place));
        List<int[]> all = allTunings(lost);
        there(!all.isEmpty());
        return all.get(0)[lost.indexOf(place)];
    }

    long known(int air) {
        needsAir(air);
        int best = 0;
        long most = -1;
        for (int s = 0; s < 6; s++) {
            List<N> sheet = sheets.get(s);
            long on = pins.stream().filter(p -> p.air == air && v[p.place] != null && !v[p.place].broken
                    && v[p.place].tuned()
                    && sheet.stream().anyMatch(n -> n.tick() == p.tick && n.note() == v[p.place].note()))
                    .count();
            if (on > most) {
                most = on;
                best = s;
            }
        }
        there(most > 0);
        return best;
    }

    long coin(int weight, int width) {
        boolean is = in(weight, 40, 44) && in(width, 20, 22);
        coins += is ? 1 : 0;
        return is ? 1 : 0;
    }

    long takings(int price) {
        java.math.BigInteger all = java.math.BigInteger.valueOf(coins).multiply(java.math.BigInteger.valueOf(price));
        return all.max(java.math.BigInteger.valueOf(Integer.MIN_VALUE))
                .min(java.math.BigInteger.valueOf(Integer.MAX_VALUE)).longValue();
    }

    double inTuneShare() {
        int all = 0;
        int tuned = 0;
        for (V x : v) {
            all += x != null && !x.broken ? 1 : 0;
            tuned += x != null && !x.broken && x.tuned() ? 1 : 0;
        }
        if (all == 0) {
            throw new ArithmeticException();
        }
        return (float) tuned / (float) all;
    }

    long meanOffBits() {
        int all = 0;
        int off = 0;
        for (V x : v) {
            all += x != null && !x.broken ? 1 : 0;
            off += x != null && !x.broken ? x.off() : 0;
        }
        return Double.doubleToLongBits((double) off / (double) all);
    }

    long checksum() {
        long sum = 7;
        for (V x : v) {
            if (x != null) {
                sum = sum * 31 + x.pitch();
                sum = sum * 31 + x.strikes;
            }
        }
        List<P> order = new ArrayList<>(pins);
        order.sort((a, b) -> java.util.Arrays.compare(
                new int[] {a.air, a.tick, a.place}, new int[] {b.air, b.tick, b.place}));
        for (P p : order) {
            sum = sum * 31 + p.tick;
            sum = sum * 31 + p.place;
            sum = sum * 31 + p.lean;
        }
        return sum * 31 + quarters;
    }
}
