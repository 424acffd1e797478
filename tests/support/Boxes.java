/** What several tests do to a box. */
final class Boxes {
    private Boxes() {
    }

    /** Breaks a tooth by a run, on a new cylinder of 40 ticks with one pin that stays. */
    static void breakTooth(CombCylinder box, int place) {
        box.cylinder(40, 1);
        box.pin(0, 10, place, -2);
        Check.same("run breaks one", box.run(), 1);
        Check.yes("tooth breaks", box.isBroken(place));
    }

    /** As a box is made. */
    static void empty(CombCylinder box) {
        Check.same("of a new box", box.checksum(), 217);
    }

    /** Voices, notes, a wound spring and a coin, but no cylinder. */
    static void noCylinder(CombCylinder box) {
        box.tooth(0, 200, 1);
        box.tooth(23, 195, 0);
        box.bell(24, 60);
        box.damper(0, 'w');
        box.write(0, 0, 60, 0);
        box.write(5, 599, 61, 3);
        box.wind(1);
        box.fan(3);
        box.snail(true);
        box.coin(42, 21);
    }

    /** A whole tooth at 0, a broken one at 1, a tooth out of tune at 2, one at 23, bells at 24 and 27. */
    static void voices(CombCylinder box) {
        box.tooth(1, 205, 1);
        breakTooth(box, 1);
        box.tooth(0, 200, 1);
        box.file(0, 't', 2);
        box.lead(0, 4);
        box.damper(0, 'w');
        box.bend(0, true);
        box.tooth(2, 210, 0);
        box.file(2, 'r', 59);
        box.tooth(23, 190, 2);
        box.damper(23, 'f');
        box.bell(24, 60);
        box.bell(27, 72);
        box.damper(27, 'f');
    }

    /** Those voices, a cylinder of 50 ticks and 3 airs that lies on air 1, notes, and a spring that was played. */
    static void rich(CombCylinder box) {
        voices(box);
        box.cylinder(50, 3);
        int[][] pins = {{0, 0, 0, -2}, {0, 10, 1, 0}, {1, 10, 0, 1}, {2, 20, 0, 0}, {2, 30, 2, -1},
            {1, 49, 23, 2}, {2, 47, 23, 0}, {2, 11, 24, 0}, {1, 48, 24, 2}, {0, 30, 27, 0}, {0, 20, 9, 1}};
        for (int[] p : pins) {
            box.pin(p[0], p[1], p[2], p[3]);
        }
        int[][] notes = {{0, 0, 60, 0}, {0, 10, 59, 1}, {0, 10, 58, 0}, {0, 30, 72, 2}, {1, 10, 60, 3},
            {1, 49, 62, 0}, {1, 48, 60, 1}, {2, 20, 60, 0}, {2, 47, 62, 0}, {2, 11, 60, 0}, {5, 599, 66, 0}};
        for (int[] n : notes) {
            box.write(n[0], n[1], n[2], n[3]);
        }
        box.fan(7);
        box.wind(2);
        box.snail(true);
        box.play(2);
        box.shift(1);
        box.coin(42, 21);
        box.coin(40, 22);
    }

    /** The rich box with its cylinder cemented. */
    static void cemented(CombCylinder box) {
        rich(box);
        box.cement();
    }

    /** The rich box with 60 pins. */
    static void full(CombCylinder box) {
        rich(box);
        fill(box, 60);
    }

    /** Puts pins of air 0 for places from 10 on until the cylinder has so many. */
    static void fill(CombCylinder box, int pins) {
        int has = 0;
        for (int air = 0; air < 6; air++) {
            has += box.pins(air);
        }
        for (int i = 0; has < pins; i++) {
            has = box.pin(0, 2 * (i % 20), 10 + i / 20, 0);
        }
    }

    /** A box whose first teeth are broken, with a new cylinder without pins. */
    static CombCylinder broken(int teeth, int ticks, int airs) {
        CombCylinder box = new CombCylinder();
        breakAll(box, teeth, ticks, airs);
        return box;
    }

    static void breakAll(CombCylinder box, int teeth, int ticks, int airs) {
        box.cylinder(40, 1);
        for (int place = 0; place < teeth; place++) {
            box.tooth(place, 200, 0);
            box.pin(0, 5, place, -2);
        }
        Check.same("all break", box.run(), teeth);
        box.cylinder(ticks, airs);
    }

    /** Four teeth are lost, one more is broken without pins, and one is whole. */
    static void fourLost(CombCylinder box) {
        breakAll(box, 5, 50, 2);
        box.tooth(9, 200, 0);
        for (int place = 0; place < 4; place++) {
            box.pin(place % 2, 3, place, 0);
            box.write(place % 2, 3, 60 + place, 0);
        }
    }

    /** Plays so many turns, winding as it must. */
    static void play(CombCylinder box, int turns) {
        for (int left = turns; left > 0; left -= 40) {
            box.wind(20);
            box.play(Math.min(40, left));
        }
    }
}
