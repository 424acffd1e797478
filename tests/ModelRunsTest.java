import java.util.function.LongSupplier;

/** All promises: long runs of calls, each answer against that of the model in tests/support. */
public final class ModelRunsTest {
    private static final char[] ENDS = {'t', 'r', 't', 'r', 'x'};
    private static final char[] KINDS = {'-', 'w', 'f', 'w', 'f', 'x'};
    private static final int[] LENGTHS = {200, 205, 200, 205, 200, 210, 195, 201, 400, 100, 99, 401};

    /** A row of numbers that is the same each time. */
    private long seed;
    private CombCylinder box;
    private Model model;
    private int ticks;
    private int airs;
    private int run;
    private int step;

    public static void main(String[] args) {
        ModelRunsTest test = new ModelRunsTest();
        for (int run = 0; run < 12000; run++) {
            test.oneRun(run);
        }
        for (int run = 0; run < 6000; run++) {
            test.lostRun(run);
        }
        Check.end("ModelRunsTest");
    }

    private int any(int end) {
        seed = seed * 6364136223846793005L + 1442695040888963407L;
        return (int) Math.floorMod(seed >>> 33, (long) end);
    }

    /** Mostly within 0 to end - 1, at times just beside, seldom far away. */
    private int about(int end) {
        int kind = any(60);
        if (kind == 0) {
            return -1;
        }
        if (kind == 1) {
            return end;
        }
        if (kind == 2) {
            return any(2) == 0 ? Integer.MIN_VALUE : Integer.MAX_VALUE;
        }
        return any(end);
    }

    private void begin(int number, int first) {
        run = number;
        seed = first + number;
        box = new CombCylinder();
        model = new Model();
        ticks = 40;
        airs = 3;
    }

    private void oneRun(int number) {
        begin(number, 77);
        int setUp = any(5);
        for (int place = 0; place < 28 && setUp > 0; place += 1 + (place < 5 ? any(2) : any(6))) {
            putVoice(place);
        }
        if (setUp > 0) {
            makeCylinder(ticks = 40 + any(3) * any(20), airs = 1 + any(6));
        }
        if (any(8) == 0) {
            crowd();
        }
        // With what is put at first, 28 voices and 60 pins at most, these are less than 512 calls.
        for (step = 0; step < 82; step++) {
            change();
            same("checksum", box::checksum, model::checksum);
            look();
        }
    }

    /** Some broken teeth and some whole ones, whose pins and notes crowd in a few ticks. */
    private void lostRun(int number) {
        begin(number, 999_000);
        int broken = 1 + any(3);
        makeCylinder(40, 1);
        for (int place = 0; place < broken; place++) {
            putTooth(place, 200);
            putPin(0, 5, place, -2);
        }
        same("run", box::run, model::run);
        for (int place = 3; place < 6; place++) {
            putTooth(place, LENGTHS[any(8)]);
        }
        airs = 1 + any(4);
        makeCylinder(40, airs);
        int most = 1 + any(7);
        for (int i = 0; i < 12; i++) {
            putPin(any(airs), 4 * any(2), any(3) == 0 ? any(7) : any(broken), any(5) - 2);
        }
        int notes = 2 + any(20);
        for (int air = 0; air < 6; air++) {
            for (int i = 0; i < notes; i++) {
                int a = air;
                int tick = 4 * any(2);
                int note = 58 + any(most);
                same("write", () -> box.write(a, tick, note, 0), () -> model.write(a, tick, note, 0));
                if (i > notes - 3) {
                    lookAtLost();
                }
            }
        }
    }

    private void lookAtLost() {
        same("tunings", box::tunings, model::tunings);
        for (int p = 0; p < 4; p++) {
            int place = p;
            same("lost", () -> box.lost(place), () -> model.lost(place));
        }
        same("known", () -> box.known(0), () -> model.known(0));
    }

    private void putTooth(int place, int length) {
        same("tooth", () -> box.tooth(place, length, 0) ? 1 : 0, () -> model.tooth(place, length, 0));
    }

    private void putPin(int air, int tick, int place, int lean) {
        same("pin", () -> box.pin(air, tick, place, lean), () -> model.pin(air, tick, place, lean));
    }

    /** Almost as many pins as there may be, most of them out of the way. */
    private void crowd() {
        for (int i = 0; i < 60; i++) {
            int air = any(airs);
            int tick = any(ticks);
            int place = any(3) == 0 ? any(5) : 5 + any(23);
            putPin(air, tick, place, 0);
        }
    }

    private void putVoice(int place) {
        int length = LENGTHS[any(LENGTHS.length)];
        int reach = about(3);
        int note = 58 + any(4);
        if (place < 24 ^ any(30) == 0) {
            same("tooth", () -> box.tooth(place, length, reach) ? 1 : 0, () -> model.tooth(place, length, reach));
        } else {
            same("bell", () -> box.bell(place, note) ? 1 : 0, () -> model.bell(place, note));
        }
    }

    private void makeCylinder(int t, int a) {
        same("cylinder", () -> box.cylinder(t, a), () -> model.cylinder(t, a));
    }

    private int tick() {
        return any(3) == 0 ? about(ticks) : any(12);
    }

    private int place() {
        return any(3) == 0 ? about(28) : any(5);
    }

    private void change() {
        int place = place();
        int air = any(8) == 0 ? about(6) : about(airs);
        int tick = tick();
        int kind = any(100);
        if (kind < 30) {
            int lean = about(5) - 2;
            putPin(air, tick, place, lean);
        } else if (kind < 45) {
            int note = any(9) == 0 ? about(121) : 58 + any(4);
            int part = about(4);
            same("write", () -> box.write(air, tick, note, part), () -> model.write(air, tick, note, part));
        } else if (kind < 55) {
            changeTooth(place);
        } else if (kind < 65) {
            same("arrange", () -> box.arrange(air), () -> model.arrange(air));
        } else if (kind < 80) {
            changeDrive(air);
        } else if (kind < 85) {
            putVoice(place);
        } else if (kind < 90) {
            same("pull", () -> box.pull(air, tick, place), () -> model.pull(air, tick, place));
        } else {
            changeSeldom(air);
        }
    }

    private void changeTooth(int place) {
        char where = ENDS[any(ENDS.length)];
        char damper = KINDS[any(KINDS.length)];
        int filed = any(2) == 0 ? about(61) : 1 + any(3);
        int leaded = any(2) == 0 ? about(101) - 50 : any(9) - 4;
        boolean is = any(2) == 0;
        switch (any(4)) {
            case 0 -> same("file", () -> box.file(place, where, filed), () -> model.file(place, where, filed));
            case 1 -> same("lead", () -> box.lead(place, leaded), () -> model.lead(place, leaded));
            case 2 -> same("damper", () -> box.damper(place, damper), () -> model.damper(place, damper));
            default -> same("bend", () -> box.bend(place, is) ? 1 : 0, () -> model.bend(place, is));
        }
    }

    private void changeDrive(int air) {
        int turns = about(41);
        int wound = about(21);
        int fan = about(51);
        boolean is = any(2) == 0;
        switch (any(5)) {
            case 0 -> same("wind", () -> box.wind(wound), () -> model.wind(wound));
            case 1 -> same("fan", () -> box.fan(fan), () -> model.fan(fan));
            case 2 -> same("shift", () -> box.shift(air), () -> model.shift(air));
            case 3 -> same("snail", () -> box.snail(is) ? 1 : 0, () -> model.snail(is));
            default -> same("play", () -> box.play(turns), () -> model.play(turns));
        }
    }

    private void changeSeldom(int air) {
        int weight = 39 + any(7);
        int width = 19 + any(5);
        switch (any(12)) {
            case 0, 1, 2, 3 -> same("run", box::run, model::run);
            case 4, 5 -> same("rake", box::rake, model::rake);
            case 6 -> same("erase", () -> box.erase(air), () -> model.erase(air));
            case 7, 8, 9 -> same("coin", () -> box.coin(weight, width) ? 1 : 0, () -> model.coin(weight, width));
            case 10 -> {
                if (any(4) == 0) {
                    same("cement", () -> box.cement() ? 1 : 0, model::cement);
                }
            }
            default -> {
                int t = any(4) == 0 ? 39 + about(563) : 40 + any(30);
                int a = about(8);
                makeCylinder(t, a);
                if (t >= 40 && t <= 600 && a >= 1 && a <= 6) {
                    ticks = t;
                    airs = a;
                }
            }
        }
    }

    private void look() {
        int place = place();
        switch (any(9)) {
            case 0 -> same("pitch", () -> box.pitch(place), () -> model.pitch(place));
            case 1 -> same("note", () -> box.note(place), () -> model.note(place));
            case 2 -> same("isInTune", () -> box.isInTune(place) ? 1 : 0, () -> model.isInTune(place));
            case 3 -> same("steel", () -> box.steel(place), () -> model.steel(place));
            case 4 -> same("damping", () -> box.damping(place), () -> model.damping(place));
            case 5 -> same("strikes", () -> box.strikes(place), () -> model.strikes(place));
            case 6 -> same("isBroken", () -> box.isBroken(place) ? 1 : 0, () -> model.isBroken(place));
            case 7 -> same("lost", () -> box.lost(place), () -> model.lost(place));
            default -> same("tunings", box::tunings, model::tunings);
        }
        lookAtAir();
        lookAtBox();
    }

    private void lookAtAir() {
        int air = any(8) == 0 ? about(6) : about(airs);
        int tick = tick();
        switch (any(6)) {
            case 0 -> same("pins", () -> box.pins(air), () -> model.pins(air));
            case 1 -> same("buzzes", () -> box.buzzes(air), () -> model.buzzes(air));
            case 2 -> same("foreign", () -> box.foreign(air), () -> model.foreign(air));
            case 3 -> same("heard", () -> box.heard(air, tick), () -> model.heard(air, tick));
            case 4 -> same("shifted", box::shifted, model::shifted);
            default -> same("known", () -> box.known(air), () -> model.known(air));
        }
    }

    private void lookAtBox() {
        int price = any(3) == 0 ? any(100) - 50 : (int) (seed >>> 20);
        switch (any(7)) {
            case 0 -> same("speedBits", box::speedBits, model::speedBits);
            case 1 -> same("played", () -> Double.doubleToLongBits(box.played()),
                    () -> Double.doubleToLongBits(model.played()));
            case 2 -> same("takings", () -> box.takings(price), () -> model.takings(price));
            case 3 -> same("inTuneShare", () -> Double.doubleToLongBits(box.inTuneShare()),
                    () -> Double.doubleToLongBits(model.inTuneShare()));
            case 4 -> same("meanOffBits", box::meanOffBits, model::meanOffBits);
            case 5 -> same("isTrue", () -> box.isTrue() ? 1 : 0, () -> 1);
            default -> same("tunings", box::tunings, model::tunings);
        }
    }

    /** Both answer the same, or both throw the same. */
    private void same(String what, LongSupplier got, LongSupplier due) {
        String where = "run " + run + " step " + step + " " + what;
        String gotName = null;
        String dueName = null;
        long g = 0;
        long d = 0;
        try {
            g = got.getAsLong();
        } catch (RuntimeException e) {
            gotName = e.getClass().getName();
        }
        try {
            d = due.getAsLong();
        } catch (RuntimeException e) {
            dueName = e.getClass().getName();
        }
        Check.same(where, g, d);
        if (gotName != null ? !gotName.equals(dueName) : dueName != null) {
            Check.tell(where + " threw " + gotName + ", due is " + dueName);
        }
    }
}
