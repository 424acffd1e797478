/** The edges of the cylinder and its pins: 'Terms', and promises 2 and 16 to 20. */
final class CylinderEdges {
    private static final String NO_CYLINDER = "Throws `IllegalStateException` if there is no cylinder";
    private static final String NO_SUCH = "Throws `IndexOutOfBoundsException` if there is no such air of it, tick or place";

    private CylinderEdges() {
    }

    static void all() {
        sizes();
        strikesAt();
        full();
        nearness();
        rakedAndCemented();
        pinsStay();
        make();
        pin();
        pull();
        pins();
        rake();
        cement();
    }

    private static void sizes() {
        Edge.of("Cylinder", "It has 40 to 600 ticks", () -> {
            Twins.range(Boxes::rich, Twins.NUMBER, 40, 600, (box, ticks) -> box.cylinder(ticks, 1));
            for (int ticks : new int[] {40, 41, 599, 600}) {
                Twins.range(box -> box.cylinder(ticks, 1), Twins.INDEX, 0, ticks - 1,
                    (box, tick) -> box.pin(0, tick, 0, 0));
            }
        });
        Edge.of("Cylinder", "which follow each other round", () -> {
            for (int ticks : new int[] {40, 600}) {
                CombCylinder box = new CombCylinder();
                box.cylinder(ticks, 1);
                box.pin(0, 0, 0, 0);
                Check.notDone(box, "the last tick is beside the first", () -> box.pin(0, ticks - 1, 0, 0));
                Check.same("the last but one is not", box.pin(0, ticks - 2, 0, 0), 2);
            }
        });
        Edge.of("Cylinder", "and 1 to 6 airs", () -> {
            Twins.range(Boxes::rich, Twins.NUMBER, 1, 6, (box, airs) -> box.cylinder(40, airs));
            for (int airs = 1; airs <= 6; airs++) {
                int all = airs;
                Twins.range(box -> box.cylinder(40, all), Twins.INDEX, 0, all - 1, CombCylinder::shift);
            }
        });
    }

    private static void strikesAt() {
        Edge.of("Cylinder", "with a lean of -2 to 2", () -> {
            Twins.range(Boxes::rich, Twins.NUMBER, -2, 2, (box, lean) -> box.pin(0, 40, 0, lean));
            for (int lean = -2; lean <= 2; lean++) {
                CombCylinder box = new CombCylinder();
                box.cylinder(40, 1);
                box.pin(0, 5, 0, lean);
                Check.same("lean", box.pull(0, 5, 0), lean);
            }
        });
        Edge.of("Cylinder", "it strikes at its tick and the lean, going round", () -> {
            for (int ticks : new int[] {40, 600}) {
                int[][] pins = {{0, 0, 0}, {0, -1, ticks - 1}, {0, -2, ticks - 2}, {1, -1, 0}, {1, -2, ticks - 1},
                    {0, 2, 2}, {2, -2, 0}, {ticks - 1, 0, ticks - 1}, {ticks - 1, 1, 0}, {ticks - 1, 2, 1},
                    {ticks - 2, 1, ticks - 1}, {ticks - 2, 2, 0}, {ticks - 1, -2, ticks - 3}};
                for (int[] p : pins) {
                    CombCylinder box = new CombCylinder();
                    box.tooth(0, 200, 0);
                    box.cylinder(ticks, 1);
                    box.pin(0, p[0], 0, p[1]);
                    Check.same("pin " + p[0] + " leaning " + p[1], box.heard(0, p[2]), 1);
                    if (p[1] != 0) {
                        Check.same("not at its own tick", box.heard(0, p[0]), 0);
                    }
                }
            }
        });
    }

    private static void full() {
        Edge.of("Cylinder", "At most 60 pins are in it", () -> {
            CombCylinder box = new CombCylinder();
            box.cylinder(40, 6);
            for (int i = 0; i < 60; i++) {
                Check.same("pin " + i, box.pin(i % 6, 7 * i % 40, i % 28, 0), i + 1);
            }
            Check.notDone(box, "the 61st", () -> box.pin(5, 0, 27, 0));
            Check.same("pull one", box.pull(0, 0, 0), 0);
            Check.same("one in its place", box.pin(5, 1, 26, 0), 60);
            Twins.refuses("the 61st", Boxes::full, Twins.UNDONE, b -> b.pin(2, 0, 19, 0));
            Twins.takes(b -> {
                Boxes.rich(b);
                Boxes.fill(b, 59);
            }, (b, place) -> b.pin(2, 0, place, 0), 19);
        });
        Edge.of("Cylinder", "one of an air, a tick and a place", () -> {
            Twins.Use made = box -> {
                box.cylinder(40, 3);
                box.pin(1, 5, 6, 1);
            };
            Twins.refusesEach(made, Twins.UNDONE, (box, lean) -> box.pin(1, 5, 6, lean), -2, 0, 1, 2);
            Twins.takes(made, (box, place) -> box.pin(1, 5, place, 1), 5, 7);
        });
    }

    private static void nearness() {
        Edge.of("Cylinder", "None comes so near to another one of the same place", () -> {
            for (int ticks : new int[] {40, 41, 600}) {
                for (int at : new int[] {0, 1, 20, ticks - 2, ticks - 1}) {
                    for (int ahead = -3; ahead <= 3; ahead++) {
                        nearPins(ticks, at, ahead);
                    }
                }
            }
        });
    }

    private static void nearPins(int ticks, int at, int ahead) {
        int other = Math.floorMod(at + ahead, ticks);
        for (int airs = 0; airs <= 3; airs++) {
            boolean isNear = airs <= 1 && Math.abs(ahead) <= 1;
            for (int lean = -2; lean <= 2; lean += 2) {
                CombCylinder box = new CombCylinder();
                box.cylinder(ticks, 4);
                box.pin(3 - airs, at, 8, lean);
                int l = lean;
                if (isNear) {
                    Check.notDone(box, "near " + other + " to " + at, () -> box.pin(3, other, 8, -l));
                } else {
                    Check.same("not near " + other + " to " + at, box.pin(3, other, 8, -l), 2);
                }
                Check.yes("isTrue", box.isTrue());
                Check.same("another place", box.pin(3, other, 9, lean), isNear ? 2 : 3);
            }
        }
    }

    private static void rakedAndCemented() {
        Edge.of("Cylinder", "Raked, no pin leans", () -> {
            CombCylinder box = new CombCylinder();
            box.cylinder(40, 1);
            for (int lean = -2; lean <= 2; lean++) {
                box.pin(0, 5, 2 + lean, lean);
            }
            box.rake();
            for (int place = 0; place < 5; place++) {
                Check.same("at " + place, box.pull(0, 5, place), 0);
            }
        });
        Edge.of("Cylinder", "Cemented, no pin comes or goes, or is raked, for good", () -> {
            Twins.refuses("comes", Boxes::cemented, Twins.UNDONE, box -> box.pin(2, 0, 19, 0));
            Twins.refuses("goes", Boxes::cemented, Twins.UNDONE, box -> box.pull(0, 0, 0));
            Twins.refuses("is raked", Boxes::cemented, Twins.UNDONE, CombCylinder::rake);
            Twins.refuses("is arranged", Boxes::cemented, Twins.UNDONE, box -> box.arrange(0));
            CombCylinder box = new CombCylinder();
            Boxes.cemented(box);
            box.tooth(0, 200, 0);
            box.run();
            box.cement();
            Check.notDone(box, "for good", box::rake);
            Check.yes("the pins are still in it", box.cylinder(40, 1) > 0);
            Check.same("a new one is not cemented", box.pin(0, 0, 0, 0), 1);
        });
    }

    private static void pinsStay() {
        Edge.of("Cylinder", "As a place has another voice, pins stay", () -> {
            CombCylinder box = new CombCylinder();
            box.cylinder(40, 1);
            box.pin(0, 5, 0, 1);
            box.pin(0, 5, 24, -1);
            box.tooth(0, 200, 0);
            box.bell(24, 60);
            Check.same("with the first voices", box.pins(0), 2);
            box.tooth(0, 210, 1);
            box.bell(24, 61);
            Check.same("with others", box.pins(0), 2);
            Check.same("with its lean", box.pull(0, 5, 0), 1);
            Check.same("with its lean too", box.pull(0, 5, 24), -1);
        });
    }

    private static void make() {
        Edge.of("2", "Returns how many pins the one before had, 0 without one", () -> {
            CombCylinder box = new CombCylinder();
            Check.same("without one", box.cylinder(40, 3), 0);
            Check.same("without pins", box.cylinder(40, 3), 0);
            Boxes.fill(box, 1);
            Check.same("with one", box.cylinder(40, 3), 1);
            Boxes.fill(box, 60);
            box.cement();
            box.shift(2);
            Check.same("with all", box.cylinder(40, 3), 60);
            Check.same("the shift", box.shifted(), 0);
            Check.same("the pins", box.pins(0), 0);
        });
        Edge.of("2", "Throws `IllegalArgumentException` if a number is out of range", () -> {
            Twins.range(Boxes::empty, Twins.NUMBER, 40, 600, (box, ticks) -> box.cylinder(ticks, 6));
            Twins.range(Boxes::empty, Twins.NUMBER, 1, 6, (box, airs) -> box.cylinder(600, airs));
            Twins.refusesEach(Boxes::cemented, Twins.NUMBER, (box, ticks) -> box.cylinder(ticks, 1), 39, 601);
            Twins.refusesEach(Boxes::full, Twins.NUMBER, (box, airs) -> box.cylinder(40, airs), 0, 7);
        });
    }

    private static void pin() {
        Edge.of("16", "Returns how many pins the cylinder has", () -> {
            CombCylinder box = new CombCylinder();
            box.cylinder(600, 6);
            Check.same("the first", box.pin(0, 0, 0, -2), 1);
            Check.same("of the last air", box.pin(5, 599, 27, 2), 2);
            Boxes.fill(box, 59);
            Check.same("the last", box.pin(3, 300, 5, 0), 60);
        });
        Edge.of("16", NO_CYLINDER, () -> {
            Twins.refuses("a good one", Boxes::noCylinder, Twins.STATE, box -> box.pin(0, 0, 0, 0));
            Twins.refuses("no air", Boxes::noCylinder, Twins.STATE, box -> box.pin(6, -1, 28, 3));
        });
        Edge.of("16", NO_SUCH, () -> {
            Twins.range(Boxes::rich, Twins.INDEX, 0, 2, (box, air) -> box.pin(air, 25, 25, 0));
            Twins.range(Boxes::rich, Twins.INDEX, 0, 49, (box, tick) -> box.pin(0, tick, 25, 0));
            Twins.range(Boxes::rich, Twins.INDEX, 0, 27, (box, place) -> box.pin(0, 25, place, 0));
            Twins.refuses("and wrong", Boxes::rich, Twins.INDEX, box -> box.pin(3, 0, 0, 3));
            Twins.refuses("and cemented", Boxes::cemented, Twins.INDEX, box -> box.pin(0, 50, 0, 0));
            Twins.refuses("and full", Boxes::full, Twins.INDEX, box -> box.pin(0, 0, 28, 0));
        });
        Edge.of("16", "Throws `IllegalArgumentException` if the lean is out of range", () -> {
            Twins.range(Boxes::rich, Twins.NUMBER, -2, 2, (box, lean) -> box.pin(2, 49, 27, lean));
            Twins.refusesEach(Boxes::cemented, Twins.NUMBER, (box, lean) -> box.pin(2, 49, 27, lean), -3, 3);
            Twins.refusesEach(Boxes::full, Twins.NUMBER, (box, lean) -> box.pin(2, 49, 27, lean), -3, 3);
            Twins.refusesEach(Boxes::rich, Twins.NUMBER, (box, lean) -> box.pin(0, 0, 0, lean), -3, 3);
        });
        Edge.of("16", "Throws `UnsupportedOperationException` if it is cemented, has 60 pins, or the pin would", () -> {
            Twins.refuses("cemented", Boxes::cemented, Twins.UNDONE, box -> box.pin(2, 49, 27, 0));
            Twins.refuses("full", Boxes::full, Twins.UNDONE, box -> box.pin(2, 49, 27, 0));
            Twins.refusesEach(Boxes::rich, Twins.UNDONE, (box, tick) -> box.pin(0, tick, 0, 0), 49, 0, 1, 9, 10, 11);
            Twins.takes(Boxes::rich, (box, tick) -> box.pin(0, tick, 0, 0), 48, 2, 8, 12, 20);
        });
    }

    private static void pull() {
        Edge.of("17", "- `tick`: the tick, without the lean", () -> {
            CombCylinder box = new CombCylinder();
            box.cylinder(40, 1);
            box.pin(0, 39, 0, 2);
            box.pin(0, 0, 1, -1);
            Check.noElement(box, "where the one strikes", () -> box.pull(0, 1, 0));
            Check.noElement(box, "where the other strikes", () -> box.pull(0, 39, 1));
            Check.same("the one", box.pull(0, 39, 0), 2);
            Check.same("the other", box.pull(0, 0, 1), -1);
        });
        Edge.of("17", "Returns its lean", () -> {
            for (int lean = -2; lean <= 2; lean++) {
                CombCylinder box = new CombCylinder();
                box.cylinder(600, 6);
                box.pin(5, 599, 27, lean);
                box.pin(0, 0, 0, -lean);
                Check.same("the last one", box.pull(5, 599, 27), lean);
                Check.same("the first one", box.pull(0, 0, 0), -lean);
                Check.same("none is left", box.cylinder(40, 1), 0);
            }
        });
        Edge.of("17", NO_CYLINDER, () -> {
            Twins.refuses("none", Boxes::noCylinder, Twins.STATE, box -> box.pull(0, 0, 0));
            Twins.refuses("no air", Boxes::noCylinder, Twins.STATE, box -> box.pull(6, -1, 28));
        });
        Edge.of("17", NO_SUCH, () -> {
            Twins.refusesEach(Boxes::rich, Twins.INDEX, (box, air) -> box.pull(air, 0, 0),
                    -1, 3, 5, 6, Integer.MIN_VALUE, Integer.MAX_VALUE);
            Twins.refusesEach(Boxes::rich, Twins.INDEX, (box, tick) -> box.pull(0, tick, 0),
                    -1, 50, 599, Integer.MIN_VALUE, Integer.MAX_VALUE);
            Twins.refusesEach(Boxes::rich, Twins.INDEX, (box, place) -> box.pull(0, 0, place),
                    -1, 28, Integer.MIN_VALUE, Integer.MAX_VALUE);
            Twins.refusesEach(Boxes::cemented, Twins.INDEX, (box, air) -> box.pull(air, 0, 0), -1, 3);
        });
        Edge.of("17", "Throws `NoSuchElementException` if there is none", () -> {
            Twins.refusesEach(Boxes::rich, Twins.NOTHING, (box, air) -> box.pull(air, 0, 0), 1, 2);
            Twins.refusesEach(Boxes::rich, Twins.NOTHING, (box, tick) -> box.pull(0, tick, 0), 1, 48, 49, 10);
            Twins.refusesEach(Boxes::rich, Twins.NOTHING, (box, place) -> box.pull(0, 0, place), 1, 27);
            Twins.refuses("and cemented", Boxes::cemented, Twins.NOTHING, box -> box.pull(0, 1, 0));
            Twins.refuses("pulled", box -> {
                Boxes.rich(box);
                box.pull(0, 0, 0);
            }, Twins.NOTHING, box -> box.pull(0, 0, 0));
        });
        Edge.of("17", "Throws `UnsupportedOperationException` if it is cemented", () ->
            Twins.refuses("cemented", Boxes::cemented, Twins.UNDONE, box -> box.pull(0, 0, 0)));
    }

    private static void pins() {
        Edge.of("18", "Returns how many, 0 without a cylinder", () -> {
            CombCylinder box = new CombCylinder();
            Check.same("without a cylinder", box.pins(0) + box.pins(5), 0);
            box.cylinder(40, 2);
            Check.same("without pins", box.pins(0), 0);
            Boxes.fill(box, 60);
            Check.same("all", box.pins(0), 60);
            Check.same("of the other air", box.pins(1), 0);
            Check.same("of an air that it has not", box.pins(2) + box.pins(5), 0);
        });
        Edge.of("18", "Throws `IndexOutOfBoundsException` if there is no such air", () -> {
            Twins.range(Boxes::empty, Twins.INDEX, 0, 5, CombCylinder::pins);
            Twins.range(box -> box.cylinder(40, 1), Twins.INDEX, 0, 5, CombCylinder::pins);
        });
    }

    private static void rake() {
        Edge.of("19", "Returns how many leaned", () -> {
            CombCylinder box = new CombCylinder();
            box.cylinder(40, 6);
            Check.same("no pins", box.rake(), 0);
            int leaning = 0;
            for (int i = 0; i < 60; i++) {
                int lean = i % 5 - 2;
                box.pin(i % 6, 7 * i % 40, i % 28, lean);
                leaning += lean != 0 ? 1 : 0;
            }
            Check.same("those of 60", box.rake(), leaning);
            Check.same("none leans", box.rake(), 0);
        });
        Edge.of("19", NO_CYLINDER, () -> Twins.refuses("rake", Boxes::noCylinder, Twins.STATE, CombCylinder::rake));
        Edge.of("19", "Throws `UnsupportedOperationException` if it is cemented", () -> {
            Twins.refuses("rake", Boxes::cemented, Twins.UNDONE, CombCylinder::rake);
            Twins.refuses("without pins", box -> {
                box.cylinder(40, 1);
                box.cement();
            }, Twins.UNDONE, CombCylinder::rake);
        });
    }

    private static void cement() {
        Edge.of("20", "Returns whether it was", () -> {
            CombCylinder box = new CombCylinder();
            box.cylinder(40, 1);
            Check.no("at first", box.cement());
            Check.yes("then", box.cement());
            box.cylinder(40, 1);
            Check.no("a new one", box.cement());
        });
        Edge.of("20", NO_CYLINDER, () ->
            Twins.refuses("cement", Boxes::noCylinder, Twins.STATE, CombCylinder::cement));
    }
}
