/** The edges of playing and of the spring: 'Terms', and promises 22 to 29 and 31 to 33. */
final class PlayEdges {
    private static final String NO_CYLINDER = "Throws `IllegalStateException` if there is no cylinder";
    private static final String NO_AIR = "Throws `IndexOutOfBoundsException` if there is no such air of it";
    private static final String OUT_OF_RANGE = "Throws `IllegalArgumentException` if a number is out of range";

    private PlayEdges() {
    }

    static void all() {
        shiftAndReach();
        buzzing();
        foreignStrikes();
        winding();
        speedOfFan();
        timeOfTurns();
        snailTurns();
        shift();
        windAndFan();
        play();
        airsOfTurns();
    }

    private static void shiftAndReach() {
        Edge.of("Playing", "The cylinder lies on an air, its shift, 0 at first", () -> {
            for (int airs = 1; airs <= 6; airs++) {
                CombCylinder box = new CombCylinder();
                box.cylinder(40, airs);
                Check.same("at first", box.shifted(), 0);
                box.shift(airs - 1);
                Check.same("shifted", box.shifted(), airs - 1);
                box.cylinder(40, airs);
                Check.same("with a new cylinder", box.shifted(), 0);
            }
        });
        Edge.of("Playing", "if there is one that is not broken", () -> {
            CombCylinder box = new CombCylinder();
            box.tooth(0, 200, 0);
            Boxes.breakTooth(box, 0);
            box.pin(0, 20, 1, 0);
            box.wind(1);
            Check.same("broken, and none", box.play(1), 0);
            Check.same("not heard", box.heard(0, 20), 0);
            box.tooth(1, 200, 0);
            Check.same("a voice there", box.play(1), 1);
            box.tooth(0, 200, 0);
            Check.same("a whole one there", box.play(1), 2);
        });
        Edge.of("Playing", "and its air is at most the reach of the voice from the shift", () -> {
            for (int reach = 0; reach <= 2; reach++) {
                for (int shift = 0; shift < 6; shift++) {
                    for (int air = 0; air < 6; air++) {
                        CombCylinder box = new CombCylinder();
                        box.tooth(0, 200, reach);
                        box.cylinder(40, 6);
                        box.pin(air, 5, 0, 0);
                        box.shift(shift);
                        box.wind(1);
                        int due = Math.abs(air - shift) <= reach ? 1 : 0;
                        Check.same("reach " + reach + " from " + shift + " to " + air, box.play(1), due);
                        Check.same("heard", box.heard(shift, 5), due);
                    }
                }
            }
        });
    }

    /** How many strikes buzz of two pins for a tooth or a bell that are so many ticks from each other. */
    private static int buzzesOf(int place, char kind, boolean bent, int from, int apart) {
        CombCylinder box = new CombCylinder();
        if (place < 24) {
            box.tooth(place, 200, 2);
        } else {
            box.bell(place, 60);
        }
        box.damper(place, kind);
        if (bent) {
            box.bend(place, true);
        }
        int ticks = 40;
        box.cylinder(ticks, 3);
        box.pin(0, from, place, 0);
        int tick = (from + apart) % ticks;
        // The lean puts the tick of the strike where the tick of the pin may not be.
        box.pin(0, (tick + 2) % ticks, place, -2);
        return box.buzzes(0);
    }

    private static void buzzing() {
        Edge.of("Playing", "A strike buzzes if the voice was struck by another pin less ticks ahead, going round", () -> {
            int[] still = {8, 4, 2, 8, 4};
            for (int kind = 0; kind < 5; kind++) {
                char damper = "-wfwf".charAt(kind);
                for (int from : new int[] {0, 5, 31, 38, 39}) {
                    for (int apart = still[kind] - 1; apart <= still[kind] + 1; apart++) {
                        int due = apart < still[kind] ? 1 : 0;
                        Check.same(damper + " from " + from + " " + apart,
                                buzzesOf(0, damper, kind > 2, from, apart), due);
                    }
                }
            }
            Check.same("a bell 1 tick behind", buzzesOf(24, 'f', false, 39, 1), 0);
            Check.same("a bent bell 1 tick behind", buzzesOf(24, 'f', true, 39, 1), 1);
            Check.same("a bent bell 2 ticks behind", buzzesOf(24, 'f', true, 39, 2), 0);
            CombCylinder box = new CombCylinder();
            box.tooth(0, 200, 0);
            box.cylinder(40, 1);
            box.pin(0, 5, 0, 0);
            Check.same("not by itself, a turn ago", box.buzzes(0), 0);
        });
        Edge.of("Playing", "of two strikes in one tick both do", () -> {
            for (int place : new int[] {0, 24}) {
                for (int from : new int[] {0, 5, 37, 38, 39}) {
                    Check.same("at " + from, buzzesOf(place, '-', false, from, 0), 2);
                }
            }
            CombCylinder box = new CombCylinder();
            box.tooth(0, 200, 2);
            box.cylinder(40, 3);
            box.pin(0, 5, 0, 0);
            box.pin(2, 5, 0, 0);
            Check.same("of two airs", box.buzzes(1), 2);
            box.tooth(0, 200, 1);
            Check.same("just one in reach", box.buzzes(0), 0);
        });
    }

    private static void foreignStrikes() {
        Edge.of("Playing", "A strike is foreign if its pin is of another air than the shift", () -> {
            CombCylinder box = new CombCylinder();
            box.tooth(0, 200, 2);
            box.cylinder(40, 6);
            for (int air = 0; air < 6; air++) {
                box.pin(air, 6 * air, 0, 0);
            }
            int[] due = {2, 3, 4, 4, 3, 2};
            for (int air = 0; air < 6; air++) {
                Check.same("on " + air, box.foreign(air), due[air]);
            }
        });
    }

    private static void winding() {
        Edge.of("Spring", "It is wound by turns, up to 80 quarters of a turn in all", () -> {
            CombCylinder box = new CombCylinder();
            Check.same("19 turns", box.wind(19), 76);
            Check.same("20 turns", box.wind(1), 80);
            Check.same("one more", box.wind(1), 80);
            box.cylinder(40, 1);
            box.play(3);
            Check.same("77 and 4", box.wind(1), 80);
            box.play(4);
            Check.same("76 and 4", box.wind(1), 80);
            box.play(5);
            Check.same("75 and 4", box.wind(1), 79);
            Check.same("far more", box.wind(20), 80);
        });
        Edge.of("Spring", "a turn of the cylinder takes a quarter", () -> {
            CombCylinder box = new CombCylinder();
            box.cylinder(40, 1);
            box.tooth(0, 200, 0);
            box.pin(0, 0, 0, 0);
            box.wind(1);
            Check.same("three of four", box.play(3), 3);
            Check.same("one is left", box.play(2), 1);
            Check.same("none is left", box.play(1), 0);
            Check.same("from none", box.wind(1), 4);
        });
        Edge.of("Spring", "The force is 10, and 1 for each quarter", () -> {
            CombCylinder box = new CombCylinder();
            box.fan(1);
            Check.same("an empty spring", box.speedBits(), Float.floatToIntBits(10f));
            box.wind(20);
            Check.same("a full spring", box.speedBits(), Float.floatToIntBits(90f));
            box.cylinder(40, 1);
            for (int quarters = 79; quarters >= 0; quarters--) {
                box.play(1);
                Check.same(quarters + " quarters", box.speedBits(), Float.floatToIntBits(10f + quarters));
            }
        });
    }

    private static void speedOfFan() {
        Edge.of("Spring", "The speed is the force divided by the fan, 1 to 50, 10 at first", () -> {
            CombCylinder box = new CombCylinder();
            Check.same("at first", box.speedBits(), Float.floatToIntBits(1f));
            Twins.range(Boxes::rich, Twins.NUMBER, 1, 50, CombCylinder::fan);
            for (int wound = 0; wound <= 20; wound += 5) {
                for (int fan = 1; fan <= 50; fan++) {
                    box.fan(fan);
                    Check.same("force " + (10 + 4 * wound) + " fan " + fan, box.speedBits(),
                            Float.floatToIntBits((float) (10 + 4 * wound) / (float) fan));
                }
                box.wind(5);
            }
        });
    }

    private static void timeOfTurns() {
        Edge.of("Spring", "A turn of the cylinder lasts its ticks", () -> {
            for (int ticks : new int[] {40, 59, 599, 600}) {
                for (int fan : new int[] {1, 7, 49, 50}) {
                    CombCylinder box = new CombCylinder();
                    box.cylinder(ticks, 1);
                    box.fan(fan);
                    box.wind(20);
                    double time = 0.0;
                    for (int quarters = 80; quarters > 0; quarters--) {
                        time += (float) ticks / ((float) (10 + quarters) / (float) fan);
                        box.play(1);
                        Check.same("time at " + quarters, box.played(), time);
                    }
                    box.play(1);
                    Check.same("no more", box.played(), time);
                }
            }
        });
    }

    private static void snailTurns() {
        Edge.of("Spring", "the shift is the next air behind each turn, the first one behind the last one", () -> {
            for (int airs = 1; airs <= 6; airs++) {
                CombCylinder box = new CombCylinder();
                box.cylinder(40, airs);
                box.tooth(0, 200, 0);
                box.pin(airs - 1, 5, 0, 0);
                box.snail(true);
                box.wind(20);
                for (int turn = 1; turn <= 2 * airs + 1; turn++) {
                    Check.same("struck on the last air", box.play(1), turn % airs == 0 ? 1 : 0);
                    Check.same("behind turn " + turn, box.shifted(), turn % airs);
                }
                box.shift(airs - 1);
                box.play(1);
                Check.same("behind the last", box.shifted(), 0);
                box.play(40);
                box.snail(false);
                int on = box.shifted();
                box.play(1);
                Check.same("without", box.shifted(), on);
            }
        });
        Edge.of("24", "Returns whether it did", () -> {
            CombCylinder box = new CombCylinder();
            boolean did = false;
            for (boolean is : new boolean[] {false, true, true, false, true, false, false}) {
                Check.same("before", box.snail(is) ? 1 : 0, did ? 1 : 0);
                did = is;
            }
        });
    }

    private static void shift() {
        Edge.of("22", "Returns the shift before", () -> {
            CombCylinder box = new CombCylinder();
            box.cylinder(40, 6);
            Check.same("the first", box.shift(5), 0);
            Check.same("the last", box.shift(5), 5);
            Check.same("the last again", box.shift(0), 5);
        });
        Edge.of("22", NO_CYLINDER, () ->
            Twins.refusesEach(Boxes::noCylinder, Twins.STATE, CombCylinder::shift, 0, -1, 6));
        Edge.of("22", NO_AIR, () -> {
            Twins.range(Boxes::rich, Twins.INDEX, 0, 2, CombCylinder::shift);
            Twins.range(box -> box.cylinder(40, 6), Twins.INDEX, 0, 5, CombCylinder::shift);
        });
        Edge.of("23", "Returns the shift", () -> {
            CombCylinder box = new CombCylinder();
            box.cylinder(40, 6);
            for (int air = 5; air >= 0; air--) {
                box.shift(air);
                Check.same("shift", box.shifted(), air);
            }
        });
        Edge.of("23", NO_CYLINDER, () ->
            Twins.refuses("shifted", Boxes::noCylinder, Twins.STATE, CombCylinder::shifted));
    }

    private static void windAndFan() {
        Edge.of("25", "- `turns`: the turns, 1 to 20", () ->
            Twins.range(Boxes::empty, Twins.NUMBER, 1, 20, CombCylinder::wind));
        Edge.of("25", "Returns the quarters then", () -> {
            Check.same("the least", new CombCylinder().wind(1), 4);
            Check.same("the most", new CombCylinder().wind(20), 80);
            CombCylinder box = new CombCylinder();
            box.wind(20);
            Check.same("of a full spring", box.wind(20), 80);
        });
        Edge.of("25", OUT_OF_RANGE, () -> {
            Twins.refusesEach(Boxes::rich, Twins.NUMBER, CombCylinder::wind, 0, 21, -1);
            Twins.refusesEach(box -> box.wind(20), Twins.NUMBER, CombCylinder::wind, 0, 21, -20);
        });
        Edge.of("26", "Returns the one before", () -> {
            CombCylinder box = new CombCylinder();
            Check.same("the first", box.fan(1), 10);
            Check.same("the least", box.fan(50), 1);
            Check.same("the most", box.fan(50), 50);
            Check.wrongNumber(box, "51", () -> box.fan(51));
            Check.same("still", box.fan(10), 50);
        });
        Edge.of("26", OUT_OF_RANGE, () -> {
            Twins.range(Boxes::empty, Twins.NUMBER, 1, 50, CombCylinder::fan);
            Twins.range(Boxes::rich, Twins.NUMBER, 1, 50, CombCylinder::fan);
        });
        Edge.of("27", "Returns the bits, as Float.floatToIntBits tells them", () -> {
            CombCylinder box = new CombCylinder();
            box.fan(50);
            Check.same("the least", box.speedBits(), Float.floatToIntBits(10f / 50f));
            box.wind(20);
            box.fan(1);
            Check.same("the greatest", box.speedBits(), Float.floatToIntBits(90f));
            box.fan(49);
            Check.same("one that is no round number", box.speedBits(), Float.floatToIntBits(90f / 49f));
        });
    }

    private static void play() {
        Edge.of("28", "Plays turns of the cylinder, as long as the spring has a quarter", () -> {
            CombCylinder box = new CombCylinder();
            box.bell(24, 60);
            box.cylinder(40, 1);
            box.pin(0, 39, 24, 1);
            Check.same("an empty spring", box.play(40), 0);
            Check.same("takes no time", box.played(), 0.0);
            box.wind(10);
            Check.same("just as many quarters", box.play(40), 40);
            Check.same("it is empty then", box.play(40), 0);
            box.wind(9);
            Check.same("less quarters", box.play(40), 36);
            Check.same("empty again", box.speedBits(), Float.floatToIntBits(1f));
            box.wind(20);
            Check.same("more quarters", box.play(40), 40);
            Check.same("half is left", box.speedBits(), Float.floatToIntBits(5f));
        });
        Edge.of("28", "- `turns`: the turns, 1 to 40", () ->
            Twins.range(box -> box.cylinder(40, 1), Twins.NUMBER, 1, 40, CombCylinder::play));
        Edge.of("28", "Returns how many strikes there were", () -> {
            CombCylinder box = new CombCylinder();
            box.cylinder(40, 1);
            box.wind(20);
            Check.same("without pins", box.play(1), 0);
            Boxes.fill(box, 60);
            Check.same("without voices", box.play(1), 0);
            for (int place = 10; place < 13; place++) {
                box.tooth(place, 200, 0);
            }
            Check.same("a full cylinder", box.play(1), 60);
            Check.same("40 times", box.play(40), 2400);
        });
        Edge.of("28", NO_CYLINDER, () ->
            Twins.refusesEach(Boxes::noCylinder, Twins.STATE, CombCylinder::play, 1, 40, 0, 41));
        Edge.of("28", OUT_OF_RANGE, () -> {
            Twins.range(Boxes::rich, Twins.NUMBER, 1, 40, CombCylinder::play);
            Twins.refusesEach(Boxes::cemented, Twins.NUMBER, CombCylinder::play, 0, 41);
        });
        Edge.of("29", "Returns the time", () -> {
            CombCylinder box = new CombCylinder();
            Check.same("at first", box.played(), 0.0);
            box.cylinder(600, 1);
            box.wind(1);
            Check.same("without a turn", box.played(), 0.0);
            box.play(1);
            double time = (float) 600 / ((float) 14 / (float) 10);
            Check.same("of a turn", box.played(), time);
            box.cylinder(40, 1);
            Check.same("also with a new cylinder", box.played(), time);
            box.play(1);
            Check.same("of another turn", box.played(), time + (float) 40 / ((float) 13 / (float) 10));
        });
    }

    private static void airsOfTurns() {
        noTurn("31", CombCylinder::buzzes);
        noTurn("32", CombCylinder::foreign);
        Edge.of("31", "Returns how many", () -> {
            CombCylinder box = new CombCylinder();
            box.cylinder(40, 1);
            Check.same("without pins", box.buzzes(0), 0);
            Boxes.fill(box, 60);
            Check.same("without voices", box.buzzes(0), 0);
            box.tooth(10, 200, 0);
            box.tooth(11, 200, 0);
            box.tooth(12, 200, 0);
            Check.same("a full cylinder", box.buzzes(0), 60);
            box.damper(11, 'f');
            Check.same("with a feather", box.buzzes(0), 40);
        });
        Edge.of("32", "Returns how many", () -> {
            CombCylinder box = new CombCylinder();
            box.cylinder(40, 3);
            Check.same("without pins", box.foreign(2), 0);
            Boxes.fill(box, 60);
            Check.same("without voices", box.foreign(2), 0);
            box.tooth(10, 200, 2);
            box.tooth(11, 200, 1);
            Check.same("on their own air", box.foreign(0), 0);
            Check.same("on the next", box.foreign(1), 40);
            Check.same("on the last", box.foreign(2), 20);
        });
        Edge.of("33", "Returns how many", () -> {
            CombCylinder box = new CombCylinder();
            box.cylinder(40, 1);
            for (int place = 0; place < 28; place++) {
                box.pin(0, 39, place, place % 2);
            }
            Check.same("without voices", box.heard(0, 39), 0);
            for (int place = 0; place < 24; place++) {
                box.tooth(place, 200, 0);
            }
            Check.same("in the last tick", box.heard(0, 39), 12);
            Check.same("round in the first", box.heard(0, 0), 12);
            Check.same("in the next", box.heard(0, 1), 0);
        });
        Edge.of("33", NO_CYLINDER, () -> {
            Twins.refuses("tick 0", Boxes::noCylinder, Twins.STATE, box -> box.heard(0, 0));
            Twins.refuses("no tick", Boxes::noCylinder, Twins.STATE, box -> box.heard(6, -1));
        });
        Edge.of("33", "Throws `IndexOutOfBoundsException` if there is no such air of it, or tick", () -> {
            Twins.range(Boxes::rich, Twins.INDEX, 0, 2, (box, air) -> box.heard(air, 49));
            Twins.range(Boxes::rich, Twins.INDEX, 0, 49, (box, tick) -> box.heard(2, tick));
            Twins.range(box -> box.cylinder(600, 6), Twins.INDEX, 0, 599, (box, tick) -> box.heard(5, tick));
        });
    }

    private static void noTurn(String promise, Twins.NumberUse call) {
        Edge.of(promise, NO_CYLINDER, () ->
            Twins.refusesEach(Boxes::noCylinder, Twins.STATE, call, 0, -1, 6));
        Edge.of(promise, NO_AIR, () -> {
            Twins.range(Boxes::rich, Twins.INDEX, 0, 2, call);
            Twins.range(box -> box.cylinder(40, 1), Twins.INDEX, 0, 0, call);
            Twins.range(box -> box.cylinder(40, 6), Twins.INDEX, 0, 5, call);
        });
    }
}
