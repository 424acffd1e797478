import java.util.ArrayList;
import java.util.List;
import java.util.NoSuchElementException;
import java.util.function.LongSupplier;

/** Refused calls: each is made on a box whose twin never gets it, and then no answer tells the two apart. */
final class Twins {
    static final Class<? extends RuntimeException> INDEX = IndexOutOfBoundsException.class;
    static final Class<? extends RuntimeException> NUMBER = IllegalArgumentException.class;
    static final Class<? extends RuntimeException> STATE = IllegalStateException.class;
    static final Class<? extends RuntimeException> NOTHING = NoSuchElementException.class;
    static final Class<? extends RuntimeException> UNDONE = UnsupportedOperationException.class;

    /** Something that is done to a box. */
    interface Use {
        void on(CombCylinder box);
    }

    /** Something that is done to a box with a number. */
    interface NumberUse {
        void on(CombCylinder box, int number);
    }

    /** Asks a box so much that its answers tell what it holds; the box is of no use behind that. */
    private interface Probe {
        void ask(CombCylinder box, List<String> answers);
    }

    private static final List<Probe> PROBES = List.of(
            Twins::askVoices, Twins::askCylinder, Twins::askSheets, Twins::askDrive, Twins::askSums);
    private static final int[] TICKS = {0, 1, 2, 9, 10, 11, 12, 20, 30, 39, 47, 48, 49};

    private Twins() {
    }

    /** The call throws just this on a box that is made like that, and changes nothing. */
    static void refuses(String what, Use made, Class<? extends RuntimeException> due, Use call) {
        for (Probe probe : PROBES) {
            CombCylinder one = new CombCylinder();
            made.on(one);
            Check.fails(one, what, due, () -> call.on(one));
            CombCylinder twin = new CombCylinder();
            made.on(twin);
            List<String> got = new ArrayList<>();
            List<String> kept = new ArrayList<>();
            probe.ask(one, got);
            probe.ask(twin, kept);
            Check.yes(what + " changes nothing", got.equals(kept));
        }
    }

    /** The numbers from least to most are taken at both ends; those beside them, and far ones, are refused. */
    static void range(Use made, Class<? extends RuntimeException> due, int least, int most, NumberUse call) {
        takes(made, call, least, most);
        refusesEach(made, due, call, least - 1, most + 1, Integer.MIN_VALUE, Integer.MAX_VALUE);
    }

    static void takes(Use made, NumberUse call, int... numbers) {
        for (int number : numbers) {
            CombCylinder box = new CombCylinder();
            made.on(box);
            Check.takes("with " + number, () -> call.on(box, number));
        }
    }

    static void refusesEach(Use made, Class<? extends RuntimeException> due, NumberUse call, int... numbers) {
        for (int number : numbers) {
            refuses("with " + number, made, due, box -> call.on(box, number));
        }
    }

    private static void ask(List<String> answers, LongSupplier question) {
        try {
            answers.add(Long.toString(question.getAsLong()));
        } catch (RuntimeException e) {
            answers.add(e.getClass().getName());
        }
    }

    private static void askVoices(CombCylinder box, List<String> answers) {
        for (int p = 0; p < 28; p++) {
            int place = p;
            ask(answers, () -> box.pitch(place));
            ask(answers, () -> box.note(place));
            ask(answers, () -> box.isInTune(place) ? 1 : 0);
            ask(answers, () -> box.steel(place));
            ask(answers, () -> box.damping(place));
            ask(answers, () -> box.strikes(place));
            ask(answers, () -> box.isBroken(place) ? 1 : 0);
            ask(answers, () -> box.bend(place, true) ? 1 : 0);
            ask(answers, () -> box.damper(place, '-'));
            ask(answers, () -> box.lead(place, -50));
        }
    }

    private static void askCylinder(CombCylinder box, List<String> answers) {
        ask(answers, box::shifted);
        for (int a = 0; a < 6; a++) {
            int air = a;
            ask(answers, () -> box.pins(air));
            ask(answers, () -> box.buzzes(air));
            ask(answers, () -> box.foreign(air));
            ask(answers, () -> box.known(air));
            for (int tick : TICKS) {
                ask(answers, () -> box.heard(air, tick));
            }
        }
        for (int p = 0; p < 24; p++) {
            int place = p;
            ask(answers, () -> box.lost(place));
        }
        ask(answers, box::tunings);
        ask(answers, box::checksum);
        ask(answers, box::rake);
        ask(answers, () -> box.cement() ? 1 : 0);
        ask(answers, box::checksum);
    }

    /** What is on the sheets is told by the pins that voices of 24 notes get by them. */
    private static void askSheets(CombCylinder box, List<String> answers) {
        for (int place = 0; place < 24; place++) {
            box.tooth(place, 250 - 5 * place, 0);
            box.damper(place, 'f');
        }
        for (int a = 0; a < 6; a++) {
            int air = a;
            box.cylinder(600, 6);
            ask(answers, () -> box.arrange(air));
            ask(answers, box::checksum);
            ask(answers, () -> box.write(air, 3, 60, 3));
            ask(answers, () -> box.arrange(air));
            ask(answers, box::checksum);
            ask(answers, () -> box.erase(air));
        }
    }

    private static void askDrive(CombCylinder box, List<String> answers) {
        ask(answers, () -> box.takings(1));
        ask(answers, () -> Double.doubleToLongBits(box.played()));
        ask(answers, box::speedBits);
        ask(answers, () -> box.fan(9));
        ask(answers, () -> box.play(2));
        ask(answers, box::shifted);
        ask(answers, () -> box.wind(1));
        ask(answers, () -> box.play(40));
        ask(answers, box::shifted);
        ask(answers, () -> Double.doubleToLongBits(box.played()));
        ask(answers, () -> box.snail(false) ? 1 : 0);
        ask(answers, box::checksum);
    }

    private static void askSums(CombCylinder box, List<String> answers) {
        ask(answers, () -> Double.doubleToLongBits(box.inTuneShare()));
        ask(answers, box::meanOffBits);
        ask(answers, () -> box.isTrue() ? 1 : 0);
        ask(answers, box::run);
        ask(answers, box::checksum);
        ask(answers, box::tunings);
        ask(answers, () -> box.isTrue() ? 1 : 0);
    }
}
