/** The edges of lost tunings and of known airs: 'Terms', and promises 36 to 38. */
final class TuningEdges {
    private static final String NO_CYLINDER = "Throws `IllegalStateException` if there is no cylinder";
    private static final String TOO_MANY = "Throws `UnsupportedOperationException` if more than 3 teeth are lost";

    private TuningEdges() {
    }

    static void all() {
        whichAreLost();
        someSheet();
        asOften();
        leftAside();
        order();
        atMostThree();
        knownSheet();
        withoutNote();
        tunings();
        lost();
        known();
    }

    /** One lost tooth with a pin of air 0 at tick 3, on a cylinder of 50 ticks and 2 airs. */
    private static CombCylinder oneLost() {
        CombCylinder box = Boxes.broken(1, 50, 2);
        box.pin(0, 3, 0, 0);
        return box;
    }

    private static void whichAreLost() {
        Edge.of("Tunings", "Of teeth that are broken, those that have pins at places of the comb are lost", () -> {
            CombCylinder box = Boxes.broken(1, 50, 6);
            box.write(5, 49, 60, 0);
            Check.noElement(box, "without a pin", () -> box.lost(0));
            box.pin(5, 49, 0, 2);
            Check.same("with one of the last air and tick", box.lost(0), 60);
            box.pull(5, 49, 0);
            Check.noElement(box, "its pin pulled", () -> box.lost(0));
            box.pin(5, 49, 0, 0);
            box.tooth(0, 200, 0);
            Check.noElement(box, "a whole one", () -> box.lost(0));
            CombCylinder last = new CombCylinder();
            last.tooth(23, 200, 0);
            Boxes.breakTooth(last, 23);
            last.write(0, 10, 1, 0);
            Check.same("the last place of the comb", last.lost(23), 1);
        });
    }

    private static void someSheet() {
        Edge.of("Tunings", "A tuning gives each lost tooth a note that some sheet has", () -> {
            CombCylinder box = oneLost();
            Check.same("empty sheets", box.tunings(), 0);
            for (int air = 1; air < 6; air++) {
                box.write(air, 3, 60, 0);
            }
            Check.same("other sheets", box.tunings(), 0);
            for (int i = 0; i < 30; i++) {
                box.write(0, 3, i < 15 ? 1 + i : 91 + i, i % 4);
            }
            Check.same("each note of a full sheet", box.tunings(), 30);
            Check.same("from the lowest", box.lost(0), 1);
            box.erase(0);
            box.write(0, 3, 120, 0);
            Check.same("the highest", box.lost(0), 120);
        });
        Edge.of("Tunings", "so that in each air of the cylinder, at each tick", () -> {
            CombCylinder box = oneLost();
            box.write(0, 3, 60, 0);
            box.write(0, 3, 61, 0);
            Check.same("one pin", box.tunings(), 2);
            box.pin(0, 49, 0, 0);
            Check.same("a tick without a note", box.tunings(), 0);
            box.write(0, 49, 61, 0);
            Check.same("a tick with one", box.tunings(), 1);
            box.pin(1, 10, 0, 0);
            Check.same("an air without a note", box.tunings(), 0);
            box.write(1, 10, 61, 0);
            Check.same("an air with one", box.lost(0), 61);
            box.tooth(1, 205, 0);
            box.pin(1, 0, 1, 0);
            Check.same("a whole tooth that is not on the sheet", box.tunings(), 0);
        });
        Edge.of("Tunings", "the notes of its own pins there, leans aside", () -> {
            for (int lean = -2; lean <= 2; lean++) {
                CombCylinder box = Boxes.broken(1, 50, 1);
                box.tooth(1, 205, 0);
                box.pin(0, 0, 0, lean);
                box.pin(0, 49, 1, lean);
                box.write(0, 49, 59, 0);
                box.write(0, 0, 70, 0);
                Check.same("by their ticks", box.tunings(), 1);
                Check.same("its note", box.lost(0), 70);
            }
        });
    }

    private static void asOften() {
        Edge.of("Tunings", "are on its sheet at this tick, as often as there, or more often there", () -> {
            for (int written = 0; written <= 4; written++) {
                CombCylinder box = Boxes.broken(1, 50, 1);
                box.tooth(1, 200, 0);
                box.bell(24, 60);
                for (int place : new int[] {0, 1, 24}) {
                    box.pin(0, 3, place, 0);
                }
                for (int i = 0; i < written; i++) {
                    box.write(0, 3, 60, i % 4);
                }
                Check.same("three pins, written " + written, box.tunings(), written < 3 ? 0 : 1);
            }
            CombCylinder two = Boxes.broken(2, 50, 1);
            two.pin(0, 3, 0, 0);
            two.pin(0, 3, 1, 0);
            two.write(0, 3, 60, 0);
            Check.same("one note for two", two.tunings(), 0);
            two.write(0, 3, 60, 0);
            Check.same("twice for two", two.tunings(), 1);
            Check.same("both have it", two.lost(0) + two.lost(1), 120);
            CombCylinder three = Boxes.broken(3, 50, 1);
            for (int place = 0; place < 3; place++) {
                three.pin(0, 3, place, 0);
            }
            three.write(0, 3, 60, 0);
            three.write(0, 3, 61, 0);
            Check.same("two notes for three", three.tunings(), 0);
            three.write(0, 3, 60, 0);
            Check.same("60 twice, 61 once", three.tunings(), 3);
            three.write(0, 3, 61, 0);
            Check.same("both twice", three.tunings(), 6);
            three.write(0, 3, 61, 0);
            Check.same("60 twice, 61 three times", three.tunings(), 7);
        });
    }

    private static void leftAside() {
        Edge.of("Tunings", "pins of places without a voice, or out of tune, are left aside", () -> {
            CombCylinder box = new CombCylinder();
            box.cylinder(50, 1);
            box.pin(0, 3, 5, 0);
            box.pin(0, 3, 27, 0);
            Check.same("without a voice", box.tunings(), 1);
            int[][] tunes = {{1, 3, 0}, {0, 2, 1}, {2, 1, 0}, {2, 0, 1}};
            for (int[] t : tunes) {
                box.tooth(5, 200, 0);
                if (t[0] > 0) {
                    box.file(5, 't', t[0]);
                }
                box.lead(5, t[1]);
                Check.same("pitch " + box.pitch(5), box.tunings(), t[2]);
            }
        });
    }

    private static void order() {
        Edge.of("Tunings", "Tunings are in order by the note of the lowest lost tooth, then of the next", () -> {
            CombCylinder box = Boxes.broken(3, 50, 1);
            for (int place = 0; place < 3; place++) {
                box.pin(0, 3, place, 0);
            }
            for (int note : new int[] {62, 60, 61}) {
                box.write(0, 3, note, 0);
            }
            Check.same("six orders", box.tunings(), 6);
            for (int place = 0; place < 3; place++) {
                Check.same("the first by place " + place, box.lost(place), 60 + place);
            }
            box.pin(0, 20, 0, 0);
            box.write(0, 20, 61, 0);
            box.write(0, 20, 62, 0);
            Check.same("0 is not 60", box.tunings(), 4);
            Check.same("the lowest of 0", box.lost(0), 61);
            Check.same("then of 1", box.lost(1), 60);
            Check.same("then of 2", box.lost(2), 62);
        });
    }

    private static void threeLost(CombCylinder box) {
        Boxes.fourLost(box);
        box.pull(1, 3, 3);
    }

    private static void atMostThree() {
        Edge.of("Tunings", "There are at most 3 lost teeth for that", () -> {
            Twins.takes(TuningEdges::threeLost, CombCylinder::lost, 0, 1, 2);
            CombCylinder box = new CombCylinder();
            threeLost(box);
            Check.same("two orders for 0 and 2, two notes for 1", box.tunings(), 4);
            Twins.refuses("four", Boxes::fourLost, Twins.UNDONE, CombCylinder::tunings);
            Twins.refusesEach(Boxes::fourLost, Twins.UNDONE, CombCylinder::lost, 0, 3, 4, 9);
        });
    }

    /** Two whole teeth of 60 and 59 with pins at ticks 0 and 49, on a cylinder of 50 ticks. */
    private static CombCylinder twoPins() {
        CombCylinder box = new CombCylinder();
        box.tooth(0, 200, 0);
        box.tooth(1, 205, 0);
        box.cylinder(50, 1);
        box.pin(0, 0, 0, -2);
        box.pin(0, 49, 1, 2);
        return box;
    }

    private static void knownSheet() {
        Edge.of("Knowing", "as that sheet on which the most of its pins have their note", () -> {
            CombCylinder box = twoPins();
            box.write(0, 0, 60, 0);
            Check.same("one of two", box.known(0), 0);
            box.write(5, 0, 60, 0);
            box.write(5, 49, 59, 0);
            Check.same("two of two", box.known(0), 5);
        });
        Edge.of("Knowing", "at their tick, leans aside", () -> {
            CombCylinder box = twoPins();
            box.write(0, 48, 60, 0);
            box.write(0, 1, 59, 0);
            Check.noElement(box, "where they strike", () -> box.known(0));
            box.write(0, 49, 60, 0);
            box.write(0, 0, 59, 0);
            Check.noElement(box, "the ticks of others", () -> box.known(0));
            box.write(3, 49, 59, 0);
            Check.same("at its tick", box.known(0), 3);
        });
        Edge.of("Knowing", "be it more often than it is there", () -> {
            CombCylinder box = twoPins();
            for (int place = 2; place < 5; place++) {
                box.tooth(place, 200, 0);
                box.pin(0, 0, place, 0);
            }
            box.write(0, 49, 59, 0);
            box.write(0, 49, 59, 0);
            box.write(0, 49, 59, 0);
            box.write(4, 0, 60, 0);
            Check.same("four pins by one note, not one by three", box.known(0), 4);
        });
        Edge.of("Knowing", "of several it is the lowest one", () -> {
            CombCylinder box = twoPins();
            for (int air = 5; air >= 0; air--) {
                box.write(air, air % 2 == 0 ? 0 : 49, air % 2 == 0 ? 60 : 59, 0);
                Check.same("from " + air, box.known(0), air);
            }
        });
    }

    private static void withoutNote() {
        Edge.of("Knowing", "Pins of places without a voice, of broken ones, or out of tune, have no note", () -> {
            CombCylinder box = new CombCylinder();
            box.cylinder(50, 1);
            box.pin(0, 3, 5, 0);
            box.write(0, 3, 60, 0);
            Check.noElement(box, "without a voice", () -> box.known(0));
            int[][] tunes = {{1, 3, 1}, {0, 2, 0}, {2, 1, 1}, {2, 0, 0}};
            for (int[] t : tunes) {
                box.tooth(5, 200, 0);
                if (t[0] > 0) {
                    box.file(5, 't', t[0]);
                }
                box.lead(5, t[1]);
                if (t[2] == 1) {
                    Check.same("pitch " + box.pitch(5), box.known(0), 0);
                } else {
                    Check.noElement(box, "pitch " + box.pitch(5), () -> box.known(0));
                }
            }
            CombCylinder broken = oneLost();
            broken.write(0, 3, 60, 0);
            Check.same("its note by the tuning", broken.lost(0), 60);
            Check.noElement(broken, "a broken one", () -> broken.known(0));
        });
    }

    private static void tunings() {
        Edge.of("36", "Returns how many, 1 if no tooth is lost and all is as it must be, otherwise 0", () -> {
            CombCylinder box = new CombCylinder();
            box.cylinder(50, 1);
            Check.same("no pins", box.tunings(), 1);
            box.tooth(0, 200, 0);
            box.pin(0, 49, 0, 0);
            Check.same("no note", box.tunings(), 0);
            box.write(0, 49, 60, 0);
            Check.same("as it must be", box.tunings(), 1);
            CombCylinder most = Boxes.broken(3, 50, 6);
            for (int place = 0; place < 3; place++) {
                for (int i = 0; i < 30; i++) {
                    most.write(2 * place, 49, 120 - i, 0);
                }
                most.pin(2 * place, 49, place, 0);
            }
            Check.same("the most", most.tunings(), 30 * 30 * 30);
            Boxes.fill(most, 60);
            Check.same("pins without voices, a full cylinder", most.tunings(), 30 * 30 * 30);
            most.tooth(10, 200, 0);
            Check.same("one voice more, whose notes are on no sheet", most.tunings(), 0);
        });
        Edge.of("36", "Returns how many, 1 if no tooth is lost and all is as it must be", () -> {
            CombCylinder full = new CombCylinder();
            for (int place = 10; place < 13; place++) {
                full.tooth(place, 205, 0);
            }
            full.cylinder(50, 1);
            Boxes.fill(full, 60);
            for (int i = 0; i < 20; i++) {
                full.write(0, 2 * i, 59, 0);
            }
            Check.same("three pins at each tick for one note", full.tunings(), 0);
            full.tooth(11, 201, 0);
            full.tooth(12, 201, 0);
            Check.same("each note of a full cylinder", full.tunings(), 1);
        });
        Edge.of("36", NO_CYLINDER, () ->
            Twins.refuses("tunings", Boxes::noCylinder, Twins.STATE, CombCylinder::tunings));
        Edge.of("36", TOO_MANY, () ->
            Twins.refuses("four", Boxes::fourLost, Twins.UNDONE, CombCylinder::tunings));
    }

    private static void lost() {
        Edge.of("37", "- `place`: the place of the comb", () -> {
            CombCylinder box = new CombCylinder();
            for (int place : new int[] {0, 23}) {
                box.tooth(place, 200, 0);
                Boxes.breakTooth(box, place);
            }
            box.pin(0, 20, 0, 0);
            box.write(0, 20, 1, 0);
            box.write(0, 10, 120, 0);
            Check.same("the first", box.lost(0), 1);
            Check.same("the last", box.lost(23), 120);
        });
        Edge.of("37", "Returns the note", () -> {
            CombCylinder box = oneLost();
            box.write(0, 3, 120, 0);
            Check.same("the highest", box.lost(0), 120);
            box.write(0, 3, 1, 3);
            Check.same("the lowest", box.lost(0), 1);
        });
        Edge.of("37", NO_CYLINDER, () ->
            Twins.refusesEach(Boxes::noCylinder, Twins.STATE, CombCylinder::lost, 0, 5, -1, 24));
        Edge.of("37", "Throws `IndexOutOfBoundsException` if there is no such place of the comb", () -> {
            Twins.refusesEach(Boxes::rich, Twins.INDEX, CombCylinder::lost,
                    -1, 24, 27, 28, Integer.MIN_VALUE, Integer.MAX_VALUE);
            Twins.refusesEach(Boxes::fourLost, Twins.INDEX, CombCylinder::lost, -1, 24);
        });
        Edge.of("37", TOO_MANY, () -> {
            Twins.refusesEach(Boxes::fourLost, Twins.UNDONE, CombCylinder::lost, 0, 1, 2, 3);
            Twins.refusesEach(Boxes::fourLost, Twins.UNDONE, CombCylinder::lost, 4, 9, 23);
        });
        Edge.of("37", "Throws `NoSuchElementException` if it is not lost, or there is no tuning", () -> {
            Twins.refusesEach(TuningEdges::threeLost, Twins.NOTHING, CombCylinder::lost, 3, 4, 9, 23);
            Twins.takes(Boxes::rich, CombCylinder::lost, 1);
            Twins.refusesEach(Boxes::rich, Twins.NOTHING, CombCylinder::lost, 0, 2, 5);
            Twins.refuses("no tuning", box -> {
                Boxes.rich(box);
                box.erase(2);
            }, Twins.NOTHING, box -> box.lost(1));
        });
    }

    private static void known() {
        Edge.of("38", "Returns the sheet", () -> {
            for (int sheet = 0; sheet < 6; sheet++) {
                CombCylinder box = twoPins();
                box.write(sheet, 49, 59, 0);
                Check.same("sheet", box.known(0), sheet);
            }
        });
        Edge.of("38", NO_CYLINDER, () ->
            Twins.refusesEach(Boxes::noCylinder, Twins.STATE, CombCylinder::known, 0, -1, 6));
        Edge.of("38", "Throws `IndexOutOfBoundsException` if there is no such air of it", () -> {
            Twins.range(Boxes::rich, Twins.INDEX, 0, 2, CombCylinder::known);
            Twins.refusesEach(box -> box.cylinder(40, 6), Twins.INDEX, CombCylinder::known, -1, 6);
            Twins.refusesEach(box -> box.cylinder(40, 1), Twins.INDEX, CombCylinder::known, -1, 1, 5);
        });
        Edge.of("38", "Throws `NoSuchElementException` if no pin of it is on any sheet", () -> {
            Twins.refusesEach(box -> box.cylinder(40, 6), Twins.NOTHING, CombCylinder::known, 0, 5);
            Twins.refusesEach(box -> {
                Boxes.noCylinder(box);
                box.cylinder(40, 6);
            }, Twins.NOTHING, CombCylinder::known, 0, 5);
            Twins.refusesEach(Boxes::fourLost, Twins.NOTHING, CombCylinder::known, 0, 1);
        });
    }
}
