/** What several tests do to a box. */
final class Boxes {
    private Boxes() {
    }

    /** Breaks a tooth by a run, on a new cylinder of 40 ticks with one pin that stays. */
    static void breakTooth(CombCylinder box, int place) {
        box.cylinder(40, 1);
        box.pin(0, 10, place, -2);
        Check.same("run breaks one", box.run(), 1);
        Check.yes("tooth breaks", box.isBroken(place));
    }
}
