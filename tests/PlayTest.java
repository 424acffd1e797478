/** Promises 22 to 33: the shift, the snail, the spring, playing, and the strikes of a turn. */
public final class PlayTest {
    public static void main(String[] args) {
        shift();
        snail();
        wind();
        fan();
        speed();
        play();
        reach();
        worn();
        wornAway();
        buzzes();
        buzzesOfPlaces();
        foreign();
        heard();
        strikes();
        Check.end("PlayTest");
    }

    private static void shift() {
        CombCylinder box = new CombCylinder();
        Check.noState(box, "shift without a cylinder", () -> box.shift(-1));
        Check.noState(box, "shifted without a cylinder", box::shifted);
        box.cylinder(40, 3);
        Check.same("shifted at first", box.shifted(), 0);
        Check.same("shift", box.shift(2), 0);
        Check.same("shift again", box.shift(1), 2);
        Check.same("shifted", box.shifted(), 1);
        for (int air : new int[] {-1, 3, 5, Integer.MIN_VALUE, Integer.MAX_VALUE}) {
            Check.noIndex(box, "shift to no air", () -> box.shift(air));
        }
        Check.same("shifted still", box.shifted(), 1);
    }

    private static void snail() {
        CombCylinder box = new CombCylinder();
        Check.no("snail", box.snail(true));
        Check.yes("snail again", box.snail(true));
        box.cylinder(40, 3);
        box.play(1);
        Check.same("no turn, no shift", box.shifted(), 0);
        box.wind(2);
        box.play(1);
        Check.same("next", box.shifted(), 1);
        box.play(2);
        Check.same("first behind the last", box.shifted(), 0);
        box.play(4);
        Check.same("on", box.shifted(), 1);
        box.run();
        Check.same("not by the run", box.shifted(), 1);
        Check.yes("snail off", box.snail(false));
        Check.no("snail off again", box.snail(false));
        box.play(1);
        Check.same("not without", box.shifted(), 1);
        box.snail(true);
        box.cylinder(40, 1);
        box.wind(1);
        box.play(1);
        Check.same("one air alone", box.shifted(), 0);
    }

    private static void wind() {
        CombCylinder box = new CombCylinder();
        Check.same("wind 1", box.wind(1), 4);
        Check.same("wind 18", box.wind(18), 76);
        Check.same("wind over", box.wind(2), 80);
        Check.same("wind full", box.wind(20), 80);
        box.cylinder(40, 1);
        box.play(3);
        Check.same("wind over again", box.wind(1), 80);
        for (int turns : new int[] {0, 21, -1, Integer.MIN_VALUE, Integer.MAX_VALUE}) {
            Check.wrongNumber(box, "wind " + turns, () -> box.wind(turns));
        }
    }

    private static void fan() {
        CombCylinder box = new CombCylinder();
        Check.same("fan", box.fan(1), 10);
        Check.same("fan again", box.fan(50), 1);
        for (int fan : new int[] {0, 51, -1, Integer.MIN_VALUE, Integer.MAX_VALUE}) {
            Check.wrongNumber(box, "fan " + fan, () -> box.fan(fan));
        }
        Check.same("fan last", box.fan(10), 50);
    }

    private static void speed() {
        for (int left = 80; left >= 0; left -= 8) {
            CombCylinder box = new CombCylinder();
            box.wind(20);
            box.cylinder(40, 1);
            for (int quarters = 80; quarters > left; quarters--) {
                Check.same("speed " + quarters, box.speedBits(), Float.floatToIntBits((10 + quarters) / 10f));
                box.play(1);
            }
            for (int fan = 1; fan <= 50; fan++) {
                box.fan(fan);
                Check.same("speed " + left + " " + fan, box.speedBits(),
                        Float.floatToIntBits((float) (10 + left) / (float) fan));
            }
        }
    }

    private static void play() {
        CombCylinder box = new CombCylinder();
        Check.noState(box, "play without a cylinder", () -> box.play(0));
        box.cylinder(70, 2);
        for (int turns : new int[] {0, 41, -1, Integer.MIN_VALUE, Integer.MAX_VALUE}) {
            Check.wrongNumber(box, "play " + turns, () -> box.play(turns));
        }
        box.tooth(0, 200, 0);
        box.pin(0, 0, 0, -1);
        box.pin(0, 9, 0, 0);
        box.pin(1, 20, 0, 0);
        box.pin(0, 20, 1, 0);
        Check.same("without a quarter", box.play(40), 0);
        Check.same("no time", box.played(), 0.0);
        box.wind(20);
        box.fan(7);
        double time = 0.0;
        for (int turn = 0; turn < 80; turn++) {
            time += (float) 70 / ((float) (90 - turn) / (float) 7);
        }
        Check.same("play 40", box.play(40), 80);
        Check.same("play 39", box.play(39), 78);
        Check.same("play what is left", box.play(40), 2);
        Check.same("play none", box.play(40), 0);
        Check.same("played", box.played(), time);
        Check.same("strikes", box.strikes(0), 160);
        box.run();
        Check.same("the run takes no time", box.played(), time);
        box.cylinder(40, 1);
        Check.same("time stays", box.played(), time);
        Check.yes("isTrue", box.isTrue());
    }

    private static void reach() {
        for (int reach = 0; reach <= 2; reach++) {
            CombCylinder box = new CombCylinder();
            box.tooth(0, 200, reach);
            box.bell(24, 60);
            box.cylinder(60, 6);
            for (int air = 0; air < 6; air++) {
                box.pin(air, 10 * air, 0, 0);
                box.pin(air, 10 * air, 24, 0);
            }
            box.wind(20);
            for (int shift = 0; shift < 6; shift++) {
                box.shift(shift);
                int due = 1 + Math.min(5, shift + reach) - Math.max(0, shift - reach) + 1;
                Check.same("reach " + reach + " on " + shift, box.play(1), due);
            }
        }
    }

    private static void worn() {
        CombCylinder box = new CombCylinder();
        box.tooth(0, 200, 0);
        box.bell(24, 60);
        box.cylinder(40, 1);
        box.pin(0, 0, 0, 0);
        box.pin(0, 0, 24, 0);
        box.wind(20);
        box.play(40);
        box.play(9);
        Check.same("49 strikes", box.pitch(0), 6000);
        box.play(1);
        Check.same("50 strikes", box.pitch(0), 5999);
        box.play(30);
        for (int i = 0; i < 2; i++) {
            box.wind(20);
            box.play(40);
            box.play(40);
        }
        box.wind(20);
        box.play(40);
        Check.same("280 strikes", box.strikes(0), 280);
        Check.yes("still in tune", box.isInTune(0));
        box.play(20);
        Check.no("no more in tune", box.isInTune(0));
        Check.same("300 strikes", box.pitch(0), 5994);
        Check.same("a bell does not wear", box.pitch(24), 6000);
    }

    /** So many strikes that the pitch goes below 0, and is cut towards 0. */
    private static void wornAway() {
        CombCylinder box = new CombCylinder();
        box.tooth(0, 400, 0);
        box.file(0, 'r', 60);
        box.lead(0, 50);
        box.lead(0, 50);
        box.cylinder(600, 1);
        box.write(0, 0, 1, 0);
        for (int i = 0; i < 60; i++) {
            box.pin(0, 2 * i, 0, 0);
        }
        int struck = 0;
        boolean was0 = false;
        for (int i = 0; i < 20; i++) {
            box.wind(20);
            struck += box.play(40) + box.play(40);
            int pitch = 1340 - struck / 50;
            Check.same("pitch worn", box.pitch(0), pitch);
            Check.same("note worn", box.note(0), (pitch + 50) / 100);
            Check.same("in tune worn", box.isInTune(0) ? 1 : 0,
                    Math.abs(pitch - (pitch + 50) / 100 * 100) <= 5 ? 1 : 0);
            Check.same("off worn", box.meanOffBits(),
                    Double.doubleToLongBits(Math.abs(pitch - (pitch + 50) / 100 * 100)));
            was0 |= pitch < 0 && box.note(0) == 0;
        }
        Check.yes("it came below 0", was0);
        Check.yes("isTrue", box.isTrue());
    }

    private static void buzzes() {
        CombCylinder box = new CombCylinder();
        Check.noState(box, "buzzes without a cylinder", () -> box.buzzes(-1));
        box.tooth(0, 200, 2);
        box.cylinder(40, 3);
        for (int air : new int[] {-1, 3, 5, Integer.MAX_VALUE}) {
            Check.noIndex(box, "buzzes of no air", () -> box.buzzes(air));
        }
        box.pin(0, 5, 0, 0);
        Check.same("one alone", box.buzzes(0), 0);
        box.pin(0, 13, 0, 0);
        Check.same("8 ticks", box.buzzes(0), 0);
        box.pin(0, 19, 0, 2);
        Check.same("8 ticks by the lean", box.buzzes(0), 0);
        box.pin(0, 28, 0, 0);
        Check.same("7 ticks by the lean", box.buzzes(0), 1);
        box.damper(0, 'w');
        Check.same("with wire", box.buzzes(0), 0);
        box.bend(0, true);
        Check.same("with bent wire", box.buzzes(0), 1);
        box.damper(0, '-');
        box.pull(0, 28, 0);
        box.pin(0, 37, 0, 0);
        Check.same("round, 8 ticks", box.buzzes(0), 0);
        box.pull(0, 37, 0);
        box.pin(0, 38, 0, 0);
        Check.same("round, 7 ticks", box.buzzes(0), 1);
        box.pin(2, 3, 0, 2);
        Check.same("two in one tick", box.buzzes(0), 2);
        Check.same("also from the other air", box.buzzes(2), 2);
        box.tooth(0, 200, 0);
        Check.same("not out of reach", box.buzzes(2), 0);
        box.damper(0, 'f');
        box.tooth(0, 200, 2);
        box.damper(0, 'f');
        Check.same("feather, one tick", box.buzzes(0), 2);
        box.pin(0, 8, 0, -2);
        Check.same("feather, behind one tick", box.buzzes(0), 3);
    }

    private static void buzzesOfPlaces() {
        CombCylinder box = new CombCylinder();
        box.tooth(0, 200, 0);
        box.tooth(1, 200, 0);
        box.bell(24, 60);
        box.cylinder(40, 1);
        box.pin(0, 5, 0, 0);
        box.pin(0, 6, 1, 0);
        box.pin(0, 5, 24, 0);
        box.pin(0, 7, 24, -1);
        box.pin(0, 5, 2, 0);
        box.pin(0, 7, 2, 0);
        Check.same("other voices do not count", box.buzzes(0), 0);
        box.pull(0, 7, 24);
        box.pin(0, 7, 24, -2);
        Check.same("a bell in one tick", box.buzzes(0), 2);
        box.pull(0, 7, 24);
        box.pin(0, 7, 24, -1);
        box.damper(24, 'f');
        box.bend(24, true);
        Check.same("a bell with a bent damper", box.buzzes(0), 1);
        box.pin(0, 9, 0, 0);
        Check.same("a tooth", box.buzzes(0), 2);
    }

    private static void foreign() {
        CombCylinder box = new CombCylinder();
        Check.noState(box, "foreign without a cylinder", () -> box.foreign(-1));
        box.tooth(0, 200, 1);
        box.tooth(1, 200, 2);
        box.tooth(2, 200, 0);
        box.cylinder(60, 4);
        for (int air : new int[] {-1, 4, 5, Integer.MAX_VALUE}) {
            Check.noIndex(box, "foreign of no air", () -> box.foreign(air));
        }
        for (int air = 0; air < 4; air++) {
            for (int place = 0; place < 4; place++) {
                box.pin(air, 15 * air, place, 0);
            }
        }
        Check.same("foreign on 0", box.foreign(0), 3);
        Check.same("foreign on 1", box.foreign(1), 5);
        Check.same("foreign on 3", box.foreign(3), 3);
        Check.same("the shift does not matter", box.shift(3), 0);
        Check.same("foreign on 0 still", box.foreign(0), 3);
    }

    private static void heard() {
        CombCylinder box = new CombCylinder();
        Check.noState(box, "heard without a cylinder", () -> box.heard(-1, -1));
        box.tooth(0, 200, 1);
        box.bell(24, 60);
        box.cylinder(40, 3);
        for (int air : new int[] {-1, 3, 5, Integer.MAX_VALUE}) {
            Check.noIndex(box, "heard of no air", () -> box.heard(air, 0));
        }
        for (int tick : new int[] {-1, 40, 599, Integer.MIN_VALUE, Integer.MAX_VALUE}) {
            Check.noIndex(box, "heard of no tick", () -> box.heard(0, tick));
        }
        box.pin(0, 1, 0, -2);
        box.pin(0, 38, 24, 1);
        box.pin(1, 39, 0, 1);
        box.pin(2, 39, 24, 0);
        box.pin(0, 39, 5, 0);
        Check.same("heard at 39", box.heard(0, 39), 2);
        Check.same("heard at 0", box.heard(0, 0), 1);
        Check.same("not at the pin's own", box.heard(0, 1), 0);
        Check.same("heard on 2 at 39", box.heard(2, 39), 1);
        Check.same("heard on 2 at 0", box.heard(2, 0), 1);
    }

    private static void strikes() {
        CombCylinder box = new CombCylinder();
        box.tooth(0, 200, 0);
        box.tooth(1, 200, 0);
        box.bell(24, 60);
        Boxes.breakTooth(box, 0);
        Check.same("strikes of the run", box.strikes(0), 3);
        box.pin(0, 10, 1, 0);
        box.pin(0, 20, 1, 0);
        box.pin(0, 20, 24, 0);
        box.wind(20);
        Check.same("a broken one is not struck", box.play(2), 6);
        Check.same("strikes of a broken one", box.strikes(0), 3);
        Check.same("strikes of a tooth", box.strikes(1), 4);
        Check.same("strikes of a bell", box.strikes(24), 2);
        box.cylinder(40, 1);
        Check.same("strikes stay", box.strikes(1), 4);
        box.bell(24, 61);
        Check.same("but not with another voice", box.strikes(24), 0);
        for (int place : new int[] {-1, 28, Integer.MIN_VALUE, Integer.MAX_VALUE}) {
            Check.noIndex(box, "strikes of no place", () -> box.strikes(place));
        }
        Check.noElement(box, "strikes of nothing", () -> box.strikes(2));
    }
}
