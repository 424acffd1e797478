/** Promises 39 to 44: coins, shares and means, the checksum, and isTrue. */
public final class SumsTest {
    public static void main(String[] args) {
        coin();
        takings();
        inTuneShare();
        meanOff();
        checksum();
        isTrue();
        examples();
        Check.end("SumsTest");
    }

    private static void coin() {
        CombCylinder box = new CombCylinder();
        int[] weights = {Integer.MIN_VALUE, -40, 0, 39, 40, 41, 44, 45, Integer.MAX_VALUE};
        int[] widths = {Integer.MIN_VALUE, -20, 0, 19, 20, 21, 22, 23, Integer.MAX_VALUE};
        int taken = 0;
        for (int weight : weights) {
            for (int width : widths) {
                boolean due = weight >= 40 && weight <= 44 && width >= 20 && width <= 22;
                Check.same("coin " + weight + " " + width, box.coin(weight, width) ? 1 : 0, due ? 1 : 0);
                taken += due ? 1 : 0;
                Check.same("takings", box.takings(1), taken);
            }
        }
        Check.same("nine were taken", taken, 9);
    }

    private static void takings() {
        CombCylinder box = new CombCylinder();
        Check.same("takings of none", box.takings(Integer.MIN_VALUE), 0);
        box.coin(42, 21);
        Check.same("takings of one", box.takings(Integer.MIN_VALUE), Integer.MIN_VALUE);
        Check.same("takings of one, most", box.takings(Integer.MAX_VALUE), Integer.MAX_VALUE);
        box.coin(42, 21);
        box.coin(42, 21);
        Check.same("takings of three", box.takings(-7), -21);
        Check.same("takings for nothing", box.takings(0), 0);
        Check.same("held at the greatest", box.takings(Integer.MAX_VALUE), Integer.MAX_VALUE);
        Check.same("held at the least", box.takings(Integer.MIN_VALUE), Integer.MIN_VALUE);
        Check.same("just within", box.takings(715827882), 2147483646);
        Check.same("just beyond", box.takings(715827883), Integer.MAX_VALUE);
        Check.same("just within below", box.takings(-715827882), -2147483646);
        Check.same("just beyond below", box.takings(-715827883), Integer.MIN_VALUE);
    }

    private static void inTuneShare() {
        CombCylinder box = new CombCylinder();
        Check.fails(box, "inTuneShare of none", ArithmeticException.class, box::inTuneShare);
        box.tooth(0, 201, 0);
        Check.same("none of one", box.inTuneShare(), 0.0);
        box.tooth(1, 200, 0);
        box.bell(24, 60);
        Check.same("two of three", (double) box.inTuneShare(), (double) (2f / 3f));
        Boxes.breakTooth(box, 1);
        Check.same("one of two, a broken one aside", box.inTuneShare(), 0.5);
        CombCylinder other = new CombCylinder();
        other.tooth(0, 200, 0);
        Boxes.breakTooth(other, 0);
        Check.fails(other, "inTuneShare of a broken one", ArithmeticException.class, other::inTuneShare);
    }

    private static void meanOff() {
        CombCylinder box = new CombCylinder();
        Check.same("mean of none", box.meanOffBits(), Double.doubleToLongBits(0.0 / 0.0));
        box.tooth(0, 200, 0);
        Check.same("mean of 0", box.meanOffBits(), 0L);
        box.file(0, 't', 2);
        Check.same("mean of 8", box.meanOffBits(), Double.doubleToLongBits(8.0));
        box.tooth(1, 201, 0);
        Check.same("mean of 8 and 20 below", box.meanOffBits(), Double.doubleToLongBits(14.0));
        box.bell(24, 3);
        Check.same("mean of three", box.meanOffBits(), Double.doubleToLongBits(28.0 / 3.0));
        Boxes.breakTooth(box, 1);
        Check.same("a broken one aside", box.meanOffBits(), Double.doubleToLongBits(4.0));
        int sum = 8;
        int count = 2;
        for (int place = 2; place < 24; place++) {
            box.tooth(place, 200, 0);
            box.lead(place, place);
            int off = Math.abs(6000 - 3 * place - (6050 - 3 * place) / 100 * 100);
            sum += off;
            count++;
            Check.same("mean of " + count, box.meanOffBits(),
                    Double.doubleToLongBits((double) sum / (double) count));
        }
        CombCylinder other = new CombCylinder();
        other.tooth(0, 200, 0);
        Boxes.breakTooth(other, 0);
        Check.same("mean of a broken one", other.meanOffBits(), 0x7ff8000000000000L);
        for (int bells = 0; bells < 24; bells++) {
            other.tooth(bells, 200, 0);
        }
        other.file(0, 't', 1);
        Check.same("4 of 24", other.meanOffBits(), Double.doubleToLongBits(4.0 / 24.0));
    }

    private static void checksum() {
        CombCylinder box = new CombCylinder();
        Check.same("checksum of nothing", box.checksum(), 31L * 7);
        box.bell(24, 60);
        box.tooth(3, 200, 0);
        box.cylinder(40, 3);
        box.wind(2);
        box.pin(2, 3, 24, -1);
        box.pin(0, 9, 3, 0);
        box.pin(0, 3, 24, 2);
        box.pin(0, 3, 3, 1);
        box.play(1);
        long[] parts = {6000, 2, 6000, 1, 3, 3, 1, 3, 24, 2, 9, 3, 0, 3, 24, -1, 7};
        long sum = 7;
        for (long part : parts) {
            sum = 31 * sum + part;
        }
        Check.same("checksum", box.checksum(), sum);
        box.run();
        box.pin(1, 20, 3, 0);
        box.pin(0, 1, 24, 0);
        // The run broke 3 at its third strike, by which a pin fell out; one of 24 fell out at once.
        long[] then = {6000, 5, 6000, 2, 1, 24, 0, 9, 3, 1, 20, 3, 0, 3, 24, -1, 7};
        long sumThen = 7;
        for (long part : then) {
            sumThen = 31 * sumThen + part;
        }
        Check.same("pins behind a run are in order", box.checksum(), sumThen);
    }

    private static void isTrue() {
        CombCylinder box = new CombCylinder();
        Check.yes("a new box", box.isTrue());
        box.tooth(0, 200, 2);
        box.bell(24, 60);
        box.cylinder(40, 6);
        for (int air = 0; air < 6; air++) {
            box.pin(air, 6 * air, 0, 0);
            box.pin(air, 6 * air, 24, 0);
        }
        box.wind(20);
        box.play(5);
        Check.yes("played", box.isTrue());
        box.file(0, 't', 60);
        box.lead(0, 50);
        box.lead(0, 50);
        Check.yes("filed and leaded", box.isTrue());
        box.bell(24, 61);
        Check.yes("a bell put anew", box.isTrue());
        box.run();
        Check.yes("run", box.isTrue());
        box.tooth(0, 100, 0);
        box.play(5);
        box.cylinder(50, 1);
        Check.yes("another cylinder", box.isTrue());
    }

    private static void examples() {
        CombCylinder box = new CombCylinder();
        Check.no("tooth", box.tooth(0, 200, 0));
        Check.same("pitch", box.pitch(0), 6000);
        Check.same("note", box.note(0), 60);
        Check.same("file", box.file(0, 't', 2), 6008);
        Check.no("isInTune", box.isInTune(0));
        Check.same("lead", box.lead(0, 4), 5996);
        CombCylinder other = new CombCylinder();
        other.tooth(0, 200, 0);
        Check.same("cylinder", other.cylinder(60, 2), 0);
        Check.same("write", other.write(0, 0, 60, 0), 1);
        Check.same("write", other.write(0, 4, 60, 0), 2);
        Check.same("write", other.write(0, 20, 60, 1), 3);
        Check.same("arrange", other.arrange(0), 1);
        Check.same("pins", other.pins(0), 2);
        Check.same("known", other.known(0), 0);
        Check.same("wind", other.wind(1), 4);
        Check.same("play", other.play(2), 4);
        Check.same("strikes", other.strikes(0), 4);
        CombCylinder coins = new CombCylinder();
        Check.yes("coin", coins.coin(40, 20));
        Check.no("coin", coins.coin(45, 21));
        Check.same("takings", coins.takings(7), 7);
    }
}
